/-! THE LAW'S CASES, written by wip/whole/gen4.py -/
def LC (p : Program) (l : Launch) (s : State) (m : MethodId) (args : Array Value) (c : Code) (A : Nat → Prop) (g : Wg) (b N : Nat) (xs : Nat → Int32) : Prop := CX p m c cL_law 8 s args RL ∧ l.stackTraces = false ∧ XS A s s.heap ∧ NC s ∧ va_X b N xs s s.heap ∧ b < s.heap.size ∧ ¬ A b
def vi (i : Int32) (N : Nat) : Prop := vp_in i N ∧ vp_in (i + 1) N ∧ vp_in (i + 2) N ∧ vp_in (i + 3) N ∧ vp_in (i + 4) N ∧ vp_in (i + 5) N
theorem nI_z {k : Nat} (h : k ≤ 100) (h2 : nI k = 0) : k = 0 := by
  have h3 := congrArg Int32.toNatClampNeg h2
  rw [nI_clamp (by omega)] at h3
  exact h3
theorem lg_same {x y : Int64} (h : x = y) : lg_cmp x y = 0 := by
  subst h
  unfold lg_cmp
  simp
def unX (x : Option ((String × Mem) ⊕ (Int32 × Mem))) : Option (Int32 × Mem) := x.bind fun r => match r with
  | .inl _ => none
  | .inr q => some q
theorem unX_of {x : Option ((String × Mem) ⊕ (Int32 × Mem))} {q : Int32 × Mem} (h : unX x = some q) : x = some (.inr q) := by
  obtain ⟨r, h1, h2⟩ := o_bind h
  cases r with
  | inl e => cases h2
  | inr a => cases h2; exact h1
theorem unX_ans {cy : Nat → ClassId} {iv : Nat → Option Nat} {ad : Nat → Nat} {μ0 : Mem} {iw : Nat → Option Nat} {aw : Nat → Nat} {μ1 : Mem} {x : Option ((String × Mem) ⊕ (Int32 × Mem))} {y : Option (Int32 × Mem)} (h : ANS cy iv ad μ0 iw aw μ1 [] x y) : ANZ cy iv ad μ0 iw aw μ1 (unX x) y := by
  obtain ⟨J', w', B', I', V', A', code, v, v', e1, e2, e3, e4, e5, R⟩ := h
  have hc : code = 0 := Nat.le_zero.mp e5
  refine ⟨J', w', B', I', V', A', v', ?_, e2, R⟩
  rw [e1, if_pos hc, e4 hc]
  rfl
section LCASES
variable {p : Program} {l : Launch} {e : Env} {s : State} {m : MethodId} {args : Array Value} {below : List Frame} {meth : Method} {c : Code} {A : Nat → Prop} {g : Wg} {z b N : Nat} {xs : Nat → Int32} {μb : Mem} {f : Nat → Int64} {J : Nat → Int32} {w : Nat} {B : Nat → Nat → Int32} {I : Nat → Int32} {V : Nat → Value} {Ar : Nat → Nat → Int32} {H : Heap} {locs : List Loc} {cells slots : Nat} {Q : State → Prop} {i : Int32} {ls : Array Slot}
set_option maxRecDepth 100000 in
set_option maxHeartbeats 4000000 in
theorem lc_0 (h : LC p l s m args c A g b N xs) (R : REL J B I Ar) (hi : vi i N) (hl : lv_has ls 8 [(0, .ref b), (1, .ref (ad6 z 0)), (2, .ref (ad8 z 0)), (3, .ref (z + 116)), (4, .int i)]) (hw : PW g (LZ [] z 117) (LM g.2 z μb f J w B I V Ar) A s H locs) (hcs : cells + 8 ≤ room_1.cells ∧ slots + 48 ≤ room_1.slots)
    (kk : ∀ (f' : Nat → Int64) (J' : Nat → Int32) (w' : Nat) (B' : Nat → Nat → Int32) (I' : Nat → Int32) (V' : Nat → Value) (A' : Nat → Nat → Int32) (H1 : Heap) (locs1 : List Loc) (ls1 : Array Slot), REL J' B' I' A' → lv_has ls1 8 [(0, .ref b), (1, .ref (ad6 z 0)), (2, .ref (ad8 z 0)), (3, .ref (z + 116)), (4, .int i)] → PW g (LZ [] z 117) (LM g.2 z μb f' J' w' B' I' V' A') A s H1 locs1 → W p l e room_1 s m args below meth c H1 locs1 (cells + 8) (slots + 48) Q (F0 m 1838 ls1 [])) : W p l e room_1 s m args below meth c H locs cells slots Q (F0 m 180 ls []) := by
  obtain ⟨hC, hl0, hX, hNC, hxs, hbl, hbA⟩ := h
  have hx := hC.1
  have hb := hC.2.1
  obtain ⟨J', w', B', I', V', A', v, q1, q2, R'⟩ := lw_Z' (μb := μb) (f := f) (fx := fun μ => f_X6_feed g.2 (ad6 z 0) (xs (i + 1).toNatClampNeg) (xs (i + 2).toNatClampNeg) (xs (i + 3).toNatClampNeg) (xs (i + 4).toNatClampNeg) (xs (i + 5).toNatClampNeg) μ) (fy := fun μ => f_X8_feed g.2 (ad8 z 0) (xs (i + 1).toNatClampNeg) (xs (i + 2).toNatClampNeg) (xs (i + 3).toNatClampNeg) (xs (i + 4).toNatClampNeg) (xs (i + 5).toNatClampNeg) μ) (fun μ0 μ1 => k_feed (lay6z z) (lay8z z) R _ _ _ _ _)
  refine lv_aload_n hx hb dL_law_180 rfl (lv_at hl 1 rfl) ?_
  refine lv_aload_n hx hb dL_law_181 rfl (lv_at hl 0 rfl) ?_
  refine lv_iload hx hb dL_law_182 (lv_at hl 4 rfl) ?_
  refine lv_iconst (v := 1) hx hb dL_law_184 nc_iconst_1 ?_
  refine lv_iadd hx hb dL_law_185 ?_
  refine va_sld hx hb hxs hbl hbA hw.2.2.2.1 hi.2.1 dL_law_186 ?_
  refine lv_aload_n hx hb dL_law_187 rfl (lv_at hl 0 rfl) ?_
  refine lv_iload hx hb dL_law_188 (lv_at hl 4 rfl) ?_
  refine lv_iconst (v := 2) hx hb dL_law_190 nc_iconst_2 ?_
  refine lv_iadd hx hb dL_law_191 ?_
  refine va_sld hx hb hxs hbl hbA hw.2.2.2.1 hi.2.2.1 dL_law_192 ?_
  refine lv_aload_n hx hb dL_law_193 rfl (lv_at hl 0 rfl) ?_
  refine lv_iload hx hb dL_law_194 (lv_at hl 4 rfl) ?_
  refine lv_iconst (v := 3) hx hb dL_law_196 nc_iconst_3 ?_
  refine lv_iadd hx hb dL_law_197 ?_
  refine va_sld hx hb hxs hbl hbA hw.2.2.2.1 hi.2.2.2.1 dL_law_198 ?_
  refine lv_aload_n hx hb dL_law_199 rfl (lv_at hl 0 rfl) ?_
  refine lv_iload hx hb dL_law_200 (lv_at hl 4 rfl) ?_
  refine lv_iconst (v := 4) hx hb dL_law_202 nc_iconst_4 ?_
  refine lv_iadd hx hb dL_law_203 ?_
  refine va_sld hx hb hxs hbl hbA hw.2.2.2.1 hi.2.2.2.2.1 dL_law_204 ?_
  refine lv_aload_n hx hb dL_law_205 rfl (lv_at hl 0 rfl) ?_
  refine lv_iload hx hb dL_law_206 (lv_at hl 4 rfl) ?_
  refine lv_iconst (v := 5) hx hb dL_law_208 nc_iconst_5 ?_
  refine lv_iadd hx hb dL_law_209 ?_
  refine va_sld hx hb hxs hbl hbA hw.2.2.2.1 hi.2.2.2.2.2 dL_law_210 ?_
  refine pw_goI hw (pw_runV (As := [.int (xs (i + 1).toNatClampNeg), .int (xs (i + 2).toNatClampNeg), .int (xs (i + 3).toNatClampNeg), .int (xs (i + 4).toNatClampNeg), .int (xs (i + 5).toNatClampNeg)]) (rest := []) hC mm_X6_feed tw_317 (c_X6_feed q1 _) ⟨rfl, rfl, by decide, by decide⟩ hw LM_x rfl hl.1 (Nat.le_of_ble_eq_true rfl) ⟨Nat.le_trans (Nat.le_add_right _ _) hcs.1, Nat.le_trans (Nat.le_add_right _ _) hcs.2⟩ rfl dL_law_211) (fun H locs hw => ?_)
  refine lv_aload_n hx hb dL_law_214 rfl (lv_at hl 2 rfl) ?_
  refine lv_aload_n hx hb dL_law_215 rfl (lv_at hl 0 rfl) ?_
  refine lv_iload hx hb dL_law_216 (lv_at hl 4 rfl) ?_
  refine lv_iconst (v := 1) hx hb dL_law_218 nc_iconst_1 ?_
  refine lv_iadd hx hb dL_law_219 ?_
  refine va_sld hx hb hxs hbl hbA hw.2.2.2.1 hi.2.1 dL_law_220 ?_
  refine lv_aload_n hx hb dL_law_221 rfl (lv_at hl 0 rfl) ?_
  refine lv_iload hx hb dL_law_222 (lv_at hl 4 rfl) ?_
  refine lv_iconst (v := 2) hx hb dL_law_224 nc_iconst_2 ?_
  refine lv_iadd hx hb dL_law_225 ?_
  refine va_sld hx hb hxs hbl hbA hw.2.2.2.1 hi.2.2.1 dL_law_226 ?_
  refine lv_aload_n hx hb dL_law_227 rfl (lv_at hl 0 rfl) ?_
  refine lv_iload hx hb dL_law_228 (lv_at hl 4 rfl) ?_
  refine lv_iconst (v := 3) hx hb dL_law_230 nc_iconst_3 ?_
  refine lv_iadd hx hb dL_law_231 ?_
  refine va_sld hx hb hxs hbl hbA hw.2.2.2.1 hi.2.2.2.1 dL_law_232 ?_
  refine lv_aload_n hx hb dL_law_233 rfl (lv_at hl 0 rfl) ?_
  refine lv_iload hx hb dL_law_234 (lv_at hl 4 rfl) ?_
  refine lv_iconst (v := 4) hx hb dL_law_236 nc_iconst_4 ?_
  refine lv_iadd hx hb dL_law_237 ?_
  refine va_sld hx hb hxs hbl hbA hw.2.2.2.1 hi.2.2.2.2.1 dL_law_238 ?_
  refine lv_aload_n hx hb dL_law_239 rfl (lv_at hl 0 rfl) ?_
  refine lv_iload hx hb dL_law_240 (lv_at hl 4 rfl) ?_
  refine lv_iconst (v := 5) hx hb dL_law_242 nc_iconst_5 ?_
  refine lv_iadd hx hb dL_law_243 ?_
  refine va_sld hx hb hxs hbl hbA hw.2.2.2.1 hi.2.2.2.2.2 dL_law_244 ?_
  refine pw_goI hw (pw_runV (As := [.int (xs (i + 1).toNatClampNeg), .int (xs (i + 2).toNatClampNeg), .int (xs (i + 3).toNatClampNeg), .int (xs (i + 4).toNatClampNeg), .int (xs (i + 5).toNatClampNeg)]) (rest := [.int v]) hC mm_X8_feed tw_1209 (c_X8_feed q2 _) ⟨rfl, rfl, by decide, by decide⟩ hw LM_m rfl hl.1 (Nat.le_of_ble_eq_true rfl) ⟨Nat.le_trans (Nat.le_add_right _ _) hcs.1, Nat.le_trans (Nat.le_add_right _ _) hcs.2⟩ rfl dL_law_245) (fun H locs hw => ?_)
  refine lv_icmp_eq (tgt := 1838) hx hb dL_law_248 (by decide) (fun c1 => ?_) (fun c1 => absurd rfl c1)
  refine W.widen (k := cells + 8) (n := slots + 48) (Nat.le_add_right _ _) (Nat.le_add_right _ _) ?_
  exact kk _ _ _ _ _ _ _ _ _ ls R' (lv_sub hl [0, 1, 2, 3, 4] rfl) hw
set_option maxRecDepth 100000 in
set_option maxHeartbeats 4000000 in
theorem lc_1 (h : LC p l s m args c A g b N xs) (R : REL J B I Ar) (hi : vi i N) (hl : lv_has ls 8 [(0, .ref b), (1, .ref (ad6 z 0)), (2, .ref (ad8 z 0)), (3, .ref (z + 116)), (4, .int i)]) (hw : PW g (LZ [] z 117) (LM g.2 z μb f J w B I V Ar) A s H locs) (hcs : cells + 8 ≤ room_1.cells ∧ slots + 48 ≤ room_1.slots)
    (kk : ∀ (f' : Nat → Int64) (J' : Nat → Int32) (w' : Nat) (B' : Nat → Nat → Int32) (I' : Nat → Int32) (V' : Nat → Value) (A' : Nat → Nat → Int32) (H1 : Heap) (locs1 : List Loc) (ls1 : Array Slot), REL J' B' I' A' → lv_has ls1 8 [(0, .ref b), (1, .ref (ad6 z 0)), (2, .ref (ad8 z 0)), (3, .ref (z + 116)), (4, .int i)] → PW g (LZ [] z 117) (LM g.2 z μb f' J' w' B' I' V' A') A s H1 locs1 → W p l e room_1 s m args below meth c H1 locs1 (cells + 8) (slots + 48) Q (F0 m 1838 ls1 [])) : W p l e room_1 s m args below meth c H locs cells slots Q (F0 m 253 ls []) := by
  obtain ⟨hC, hl0, hX, hNC, hxs, hbl, hbA⟩ := h
  have hx := hC.1
  have hb := hC.2.1
  obtain ⟨J', w', B', I', V', A', v, q1, q2, R'⟩ := lw_Z' (μb := μb) (f := f) (fx := fun μ => f_X6_end g.2 (ad6 z 0) (xs (i + 1).toNatClampNeg) μ) (fy := fun μ => f_X8_end g.2 (ad8 z 0) (xs (i + 1).toNatClampNeg) μ) (fun μ0 μ1 => k_end (lay6z z) (lay8z z) R _)
  refine lv_aload_n hx hb dL_law_253 rfl (lv_at hl 1 rfl) ?_
  refine lv_aload_n hx hb dL_law_254 rfl (lv_at hl 0 rfl) ?_
  refine lv_iload hx hb dL_law_255 (lv_at hl 4 rfl) ?_
  refine lv_iconst (v := 1) hx hb dL_law_257 nc_iconst_1 ?_
  refine lv_iadd hx hb dL_law_258 ?_
  refine va_sld hx hb hxs hbl hbA hw.2.2.2.1 hi.2.1 dL_law_259 ?_
  refine pw_goI hw (pw_runV (As := [.int (xs (i + 1).toNatClampNeg)]) (rest := []) hC mm_X6_end tw_325 (c_X6_end q1 _) ⟨rfl, rfl, by decide, by decide⟩ hw LM_x rfl hl.1 (Nat.le_of_ble_eq_true rfl) ⟨Nat.le_trans (Nat.le_add_right _ _) hcs.1, Nat.le_trans (Nat.le_add_right _ _) hcs.2⟩ rfl dL_law_260) (fun H locs hw => ?_)
  refine lv_aload_n hx hb dL_law_263 rfl (lv_at hl 2 rfl) ?_
  refine lv_aload_n hx hb dL_law_264 rfl (lv_at hl 0 rfl) ?_
  refine lv_iload hx hb dL_law_265 (lv_at hl 4 rfl) ?_
  refine lv_iconst (v := 1) hx hb dL_law_267 nc_iconst_1 ?_
  refine lv_iadd hx hb dL_law_268 ?_
  refine va_sld hx hb hxs hbl hbA hw.2.2.2.1 hi.2.1 dL_law_269 ?_
  refine pw_goI hw (pw_runV (As := [.int (xs (i + 1).toNatClampNeg)]) (rest := [.int v]) hC mm_X8_end tw_1213 (c_X8_end q2 _) ⟨rfl, rfl, by decide, by decide⟩ hw LM_m rfl hl.1 (Nat.le_of_ble_eq_true rfl) ⟨Nat.le_trans (Nat.le_add_right _ _) hcs.1, Nat.le_trans (Nat.le_add_right _ _) hcs.2⟩ rfl dL_law_270) (fun H locs hw => ?_)
  refine lv_icmp_eq (tgt := 1838) hx hb dL_law_273 (by decide) (fun c1 => ?_) (fun c1 => absurd rfl c1)
  refine W.widen (k := cells + 8) (n := slots + 48) (Nat.le_add_right _ _) (Nat.le_add_right _ _) ?_
  exact kk _ _ _ _ _ _ _ _ _ ls R' (lv_sub hl [0, 1, 2, 3, 4] rfl) hw
set_option maxRecDepth 100000 in
set_option maxHeartbeats 4000000 in
theorem lc_2 (h : LC p l s m args c A g b N xs) (R : REL J B I Ar) (hi : vi i N) (hl : lv_has ls 8 [(0, .ref b), (1, .ref (ad6 z 0)), (2, .ref (ad8 z 0)), (3, .ref (z + 116)), (4, .int i)]) (hw : PW g (LZ [] z 117) (LM g.2 z μb f J w B I V Ar) A s H locs) (hcs : cells + 8 ≤ room_1.cells ∧ slots + 48 ≤ room_1.slots)
    (kk : ∀ (f' : Nat → Int64) (J' : Nat → Int32) (w' : Nat) (B' : Nat → Nat → Int32) (I' : Nat → Int32) (V' : Nat → Value) (A' : Nat → Nat → Int32) (H1 : Heap) (locs1 : List Loc) (ls1 : Array Slot), REL J' B' I' A' → lv_has ls1 8 [(0, .ref b), (1, .ref (ad6 z 0)), (2, .ref (ad8 z 0)), (3, .ref (z + 116)), (4, .int i)] → PW g (LZ [] z 117) (LM g.2 z μb f' J' w' B' I' V' A') A s H1 locs1 → W p l e room_1 s m args below meth c H1 locs1 (cells + 8) (slots + 48) Q (F0 m 1838 ls1 [])) : W p l e room_1 s m args below meth c H locs cells slots Q (F0 m 278 ls []) := by
  obtain ⟨hC, hl0, hX, hNC, hxs, hbl, hbA⟩ := h
  have hx := hC.1
  have hb := hC.2.1
  obtain ⟨J', w', B', I', V', A', v, q1, q2, R'⟩ := lw_Z' (μb := μb) (f := f) (fx := fun μ => f_X6_judge g.2 (ad6 z 0)  μ) (fy := fun μ => f_X8_judge g.2 (ad8 z 0)  μ) (fun μ0 μ1 => k_judge (lay6z z) (lay8z z) R )
  refine lv_aload_n hx hb dL_law_278 rfl (lv_at hl 1 rfl) ?_
  refine pw_goI hw (pw_runV (As := []) (rest := []) hC mm_X6_judge tw_329 (c_X6_judge q1 _) ⟨rfl, rfl, by decide, by decide⟩ hw LM_x rfl hl.1 (Nat.le_of_ble_eq_true rfl) ⟨Nat.le_trans (Nat.le_add_right _ _) hcs.1, Nat.le_trans (Nat.le_add_right _ _) hcs.2⟩ rfl dL_law_279) (fun H locs hw => ?_)
  refine lv_aload_n hx hb dL_law_282 rfl (lv_at hl 2 rfl) ?_
  refine pw_goI hw (pw_runV (As := []) (rest := [.int v]) hC mm_X8_judge tw_1221 (c_X8_judge q2 _) ⟨rfl, rfl, by decide, by decide⟩ hw LM_m rfl hl.1 (Nat.le_of_ble_eq_true rfl) ⟨Nat.le_trans (Nat.le_add_right _ _) hcs.1, Nat.le_trans (Nat.le_add_right _ _) hcs.2⟩ rfl dL_law_283) (fun H locs hw => ?_)
  refine lv_icmp_eq (tgt := 1838) hx hb dL_law_286 (by decide) (fun c1 => ?_) (fun c1 => absurd rfl c1)
  refine W.widen (k := cells + 8) (n := slots + 48) (Nat.le_add_right _ _) (Nat.le_add_right _ _) ?_
  exact kk _ _ _ _ _ _ _ _ _ ls R' (lv_sub hl [0, 1, 2, 3, 4] rfl) hw
set_option maxRecDepth 100000 in
set_option maxHeartbeats 4000000 in
theorem lc_3 (h : LC p l s m args c A g b N xs) (R : REL J B I Ar) (hi : vi i N) (hl : lv_has ls 8 [(0, .ref b), (1, .ref (ad6 z 0)), (2, .ref (ad8 z 0)), (3, .ref (z + 116)), (4, .int i)]) (hw : PW g (LZ [] z 117) (LM g.2 z μb f J w B I V Ar) A s H locs) (hcs : cells + 8 ≤ room_1.cells ∧ slots + 48 ≤ room_1.slots)
    (kk : ∀ (f' : Nat → Int64) (J' : Nat → Int32) (w' : Nat) (B' : Nat → Nat → Int32) (I' : Nat → Int32) (V' : Nat → Value) (A' : Nat → Nat → Int32) (H1 : Heap) (locs1 : List Loc) (ls1 : Array Slot), REL J' B' I' A' → lv_has ls1 8 [(0, .ref b), (1, .ref (ad6 z 0)), (2, .ref (ad8 z 0)), (3, .ref (z + 116)), (4, .int i)] → PW g (LZ [] z 117) (LM g.2 z μb f' J' w' B' I' V' A') A s H1 locs1 → W p l e room_1 s m args below meth c H1 locs1 (cells + 8) (slots + 48) Q (F0 m 1838 ls1 [])) : W p l e room_1 s m args below meth c H locs cells slots Q (F0 m 291 ls []) := by
  obtain ⟨hC, hl0, hX, hNC, hxs, hbl, hbA⟩ := h
  have hx := hC.1
  have hb := hC.2.1
  obtain ⟨J', w', B', I', V', A', v, q1, q2, R'⟩ := lw_Z' (μb := μb) (f := f) (fx := fun μ => f_X6_fault g.2 (ad6 z 0) (xs (i + 1).toNatClampNeg) μ) (fy := fun μ => f_X8_fault g.2 (ad8 z 0) (xs (i + 1).toNatClampNeg) μ) (fun μ0 μ1 => k_fault (lay6z z) (lay8z z) R _)
  refine lv_aload_n hx hb dL_law_291 rfl (lv_at hl 1 rfl) ?_
  refine lv_aload_n hx hb dL_law_292 rfl (lv_at hl 0 rfl) ?_
  refine lv_iload hx hb dL_law_293 (lv_at hl 4 rfl) ?_
  refine lv_iconst (v := 1) hx hb dL_law_295 nc_iconst_1 ?_
  refine lv_iadd hx hb dL_law_296 ?_
  refine va_sld hx hb hxs hbl hbA hw.2.2.2.1 hi.2.1 dL_law_297 ?_
  refine pw_goI hw (pw_runV (As := [.int (xs (i + 1).toNatClampNeg)]) (rest := []) hC mm_X6_fault tw_421 (c_X6_fault q1 _) ⟨rfl, rfl, by decide, by decide⟩ hw LM_x rfl hl.1 (Nat.le_of_ble_eq_true rfl) ⟨Nat.le_trans (Nat.le_add_right _ _) hcs.1, Nat.le_trans (Nat.le_add_right _ _) hcs.2⟩ rfl dL_law_298) (fun H locs hw => ?_)
  refine lv_aload_n hx hb dL_law_301 rfl (lv_at hl 2 rfl) ?_
  refine lv_aload_n hx hb dL_law_302 rfl (lv_at hl 0 rfl) ?_
  refine lv_iload hx hb dL_law_303 (lv_at hl 4 rfl) ?_
  refine lv_iconst (v := 1) hx hb dL_law_305 nc_iconst_1 ?_
  refine lv_iadd hx hb dL_law_306 ?_
  refine va_sld hx hb hxs hbl hbA hw.2.2.2.1 hi.2.1 dL_law_307 ?_
  refine pw_goI hw (pw_runV (As := [.int (xs (i + 1).toNatClampNeg)]) (rest := [.int v]) hC mm_X8_fault tw_1305 (c_X8_fault q2 _) ⟨rfl, rfl, by decide, by decide⟩ hw LM_m rfl hl.1 (Nat.le_of_ble_eq_true rfl) ⟨Nat.le_trans (Nat.le_add_right _ _) hcs.1, Nat.le_trans (Nat.le_add_right _ _) hcs.2⟩ rfl dL_law_308) (fun H locs hw => ?_)
  refine lv_icmp_eq (tgt := 1838) hx hb dL_law_311 (by decide) (fun c1 => ?_) (fun c1 => absurd rfl c1)
  refine W.widen (k := cells + 8) (n := slots + 48) (Nat.le_add_right _ _) (Nat.le_add_right _ _) ?_
  exact kk _ _ _ _ _ _ _ _ _ ls R' (lv_sub hl [0, 1, 2, 3, 4] rfl) hw
set_option maxRecDepth 100000 in
set_option maxHeartbeats 4000000 in
theorem lc_4 (h : LC p l s m args c A g b N xs) (R : REL J B I Ar) (hi : vi i N) (hl : lv_has ls 8 [(0, .ref b), (1, .ref (ad6 z 0)), (2, .ref (ad8 z 0)), (3, .ref (z + 116)), (4, .int i)]) (hw : PW g (LZ [] z 117) (LM g.2 z μb f J w B I V Ar) A s H locs) (hcs : cells + 8 ≤ room_1.cells ∧ slots + 48 ≤ room_1.slots)
    (kk : ∀ (f' : Nat → Int64) (J' : Nat → Int32) (w' : Nat) (B' : Nat → Nat → Int32) (I' : Nat → Int32) (V' : Nat → Value) (A' : Nat → Nat → Int32) (H1 : Heap) (locs1 : List Loc) (ls1 : Array Slot), REL J' B' I' A' → lv_has ls1 8 [(0, .ref b), (1, .ref (ad6 z 0)), (2, .ref (ad8 z 0)), (3, .ref (z + 116)), (4, .int i)] → PW g (LZ [] z 117) (LM g.2 z μb f' J' w' B' I' V' A') A s H1 locs1 → W p l e room_1 s m args below meth c H1 locs1 (cells + 8) (slots + 48) Q (F0 m 1838 ls1 [])) : W p l e room_1 s m args below meth c H locs cells slots Q (F0 m 316 ls []) := by
  obtain ⟨hC, hl0, hX, hNC, hxs, hbl, hbA⟩ := h
  have hx := hC.1
  have hb := hC.2.1
  obtain ⟨J', w', B', I', V', A', code, v, v', res, q1, q2, q3, q4, q5, q6, R', -⟩ := lw_G' (μb := μb) (f := f) (fx := fun μ => f_X6_take g.2 (ad6 z 0) (xs (i + 1).toNatClampNeg) μ) (fy := fun μ => f_X8_take g.2 (ad8 z 0) (xs (i + 1).toNatClampNeg) μ) (fun μ0 μ1 => k_take (lay6z z) (lay8z z) R _) Int32.toInt64
  refine lv_aload_n hx hb dL_law_316 rfl (lv_at hl 1 rfl) ?_
  refine lv_aload_n hx hb dL_law_317 rfl (lv_at hl 0 rfl) ?_
  refine lv_iload hx hb dL_law_318 (lv_at hl 4 rfl) ?_
  refine lv_iconst (v := 1) hx hb dL_law_320 nc_iconst_1 ?_
  refine lv_iadd hx hb dL_law_321 ?_
  refine va_sld hx hb hxs hbl hbA hw.2.2.2.1 hi.2.1 dL_law_322 ?_
  refine lv_aload_n hx hb dL_law_323 rfl (lv_at hl 3 rfl) ?_
  refine pw_runH (As := [.ref (ad6 z 0), .int (xs (i + 1).toNatClampNeg), .ref (z + 116)]) (rest := []) hC mh_L_take tw_542 (c_L_take hl0 LM_x q1 q2) ⟨by decide, by decide⟩ hw hX hNC rfl hl.1 (Nat.le_of_ble_eq_true rfl) ⟨Nat.le_trans (Nat.add_le_add_left (by decide) _) hcs.1, Nat.le_trans (Nat.add_le_add_left (by decide) _) hcs.2⟩ rfl dL_law_324 (fun H locs hw => ?_)
  refine W.widen (k := cells + 8) (n := slots + 48) (Nat.add_le_add_left (by decide) _) (Nat.add_le_add_left (by decide) _) ?_
  refine lv_istore (lv' := [(5, .int (nI code)), (0, .ref b), (1, .ref (ad6 z 0)), (2, .ref (ad8 z 0)), (3, .ref (z + 116)), (4, .int i)]) hx hb dL_law_327 hl (by decide) rfl (fun ls hl => ?_)
  refine lv_aload_n hx hb dL_law_329 rfl (lv_at hl 3 rfl) ?_
  refine lv_aload_n hx hb dL_law_330 rfl (lv_at hl 1 rfl) ?_
  refine lv_iload hx hb dL_law_331 (lv_at hl 5 rfl) ?_
  refine lv_iconst (v := 1) hx hb dL_law_333 nc_iconst_1 ?_
  refine lv_iadd hx hb dL_law_334 ?_
  refine va_sld hx hb hxs hbl hbA hw.2.2.2.1 hi.2.1 dL_law_335 ?_
  refine pw_goI hw (pw_runV (As := [.int (xs (i + 1).toNatClampNeg)]) (rest := []) hC mm_X8_take tw_1309 (c_X8_take q3 _) ⟨rfl, rfl, by decide, by decide⟩ hw LM_m rfl hl.1 (Nat.le_of_ble_eq_true rfl) ⟨hcs.1, hcs.2⟩ rfl dL_law_336) (fun H locs hw => ?_)
  refine lv_istore (lv' := [(6, .int v'), (5, .int (nI code)), (0, .ref b), (1, .ref (ad6 z 0)), (2, .ref (ad8 z 0)), (3, .ref (z + 116)), (4, .int i)]) hx hb dL_law_339 hl (by decide) rfl (fun ls hl => ?_)
  refine lv_aload_n hx hb dL_law_341 rfl (lv_at hl 4 rfl) ?_
  refine pw_goI hw (pw_runV (As := []) (rest := []) hC mm_X8_thrown tw_994 (c_X8_thrown LM_thrown _) ⟨rfl, rfl, by decide, by decide⟩ hw LM_m rfl hl.1 (Nat.le_of_ble_eq_true rfl) ⟨hcs.1, hcs.2⟩ rfl dL_law_342) (fun H locs hw => ?_)
  refine lv_iload hx hb dL_law_345 (lv_at hl 1 rfl) ?_
  refine lv_icmp_eq (tgt := 352) hx hb dL_law_347 (by decide) (fun c1 => ?_) (fun c1 => absurd q4 c1)
  refine lv_iload hx hb dL_law_352 (lv_at hl 1 rfl) ?_
  refine lv_if_ne (tgt := 369) hx hb dL_law_354 (by decide) (fun c2 => ?_) (fun c2 => ?_)
  · refine lv_goto (tgt := 1838) hx hb dL_law_369 (by decide) ?_
    exact kk _ _ _ _ _ _ _ _ _ ls R' (lv_sub hl [2, 3, 4, 5, 6] rfl) hw
  · have hc0 : code = 0 := nI_z (Nat.le_trans q6 (by decide)) c2
    refine lv_aload_n hx hb dL_law_357 rfl (lv_at hl 5 rfl) ?_
    refine lv_iconst (v := 0) hx hb dL_law_358 nc_iconst_0 ?_
    refine pw_lald hC hw LM_rd dL_law_359 ?_
    rw [show (if code = 0 then vp_updL f 0 (Int32.toInt64 v) else f) 0 = Int32.toInt64 v' from by rw [if_pos hc0, ← q5 hc0]; rfl]
    refine lv_iload hx hb dL_law_360 (lv_at hl 0 rfl) ?_
    refine lv_i2l hx hb dL_law_362 rfl ?_
    refine W.lcmp hx hb dL_law_363 ?_
    refine lv_if_eq (tgt := 369) hx hb dL_law_364 (by decide) (fun c3 => ?_) (fun c3 => absurd (lg_same rfl) c3)
    refine lv_goto (tgt := 1838) hx hb dL_law_369 (by decide) ?_
    exact kk _ _ _ _ _ _ _ _ _ ls R' (lv_sub hl [2, 3, 4, 5, 6] rfl) hw
set_option maxRecDepth 100000 in
set_option maxHeartbeats 4000000 in
theorem lc_5 (h : LC p l s m args c A g b N xs) (R : REL J B I Ar) (hi : vi i N) (hl : lv_has ls 8 [(0, .ref b), (1, .ref (ad6 z 0)), (2, .ref (ad8 z 0)), (3, .ref (z + 116)), (4, .int i)]) (hw : PW g (LZ [] z 117) (LM g.2 z μb f J w B I V Ar) A s H locs) (hcs : cells + 8 ≤ room_1.cells ∧ slots + 48 ≤ room_1.slots)
    (kk : ∀ (f' : Nat → Int64) (J' : Nat → Int32) (w' : Nat) (B' : Nat → Nat → Int32) (I' : Nat → Int32) (V' : Nat → Value) (A' : Nat → Nat → Int32) (H1 : Heap) (locs1 : List Loc) (ls1 : Array Slot), REL J' B' I' A' → lv_has ls1 8 [(0, .ref b), (1, .ref (ad6 z 0)), (2, .ref (ad8 z 0)), (3, .ref (z + 116)), (4, .int i)] → PW g (LZ [] z 117) (LM g.2 z μb f' J' w' B' I' V' A') A s H1 locs1 → W p l e room_1 s m args below meth c H1 locs1 (cells + 8) (slots + 48) Q (F0 m 1838 ls1 [])) : W p l e room_1 s m args below meth c H locs cells slots Q (F0 m 372 ls []) := by
  obtain ⟨hC, hl0, hX, hNC, hxs, hbl, hbA⟩ := h
  have hx := hC.1
  have hb := hC.2.1
  obtain ⟨J', w', B', I', V', A', code, v, v', res, q1, q2, q3, q4, q5, q6, R', -⟩ := lw_G' (μb := μb) (f := f) (fx := fun μ => f_X6_go g.2 (ad6 z 0) (xs (i + 1).toNatClampNeg) (xs (i + 2).toNatClampNeg) μ) (fy := fun μ => f_X8_go g.2 (ad8 z 0) (xs (i + 1).toNatClampNeg) (xs (i + 2).toNatClampNeg) μ) (fun μ0 μ1 => k_go (lay6z z) (lay8z z) R _ _) (fun r => if r = 0 then 0 else 1)
  refine lv_aload_n hx hb dL_law_372 rfl (lv_at hl 1 rfl) ?_
  refine lv_aload_n hx hb dL_law_373 rfl (lv_at hl 0 rfl) ?_
  refine lv_iload hx hb dL_law_374 (lv_at hl 4 rfl) ?_
  refine lv_iconst (v := 1) hx hb dL_law_376 nc_iconst_1 ?_
  refine lv_iadd hx hb dL_law_377 ?_
  refine va_sld hx hb hxs hbl hbA hw.2.2.2.1 hi.2.1 dL_law_378 ?_
  refine lv_aload_n hx hb dL_law_379 rfl (lv_at hl 0 rfl) ?_
  refine lv_iload hx hb dL_law_380 (lv_at hl 4 rfl) ?_
  refine lv_iconst (v := 2) hx hb dL_law_382 nc_iconst_2 ?_
  refine lv_iadd hx hb dL_law_383 ?_
  refine va_sld hx hb hxs hbl hbA hw.2.2.2.1 hi.2.2.1 dL_law_384 ?_
  refine lv_aload_n hx hb dL_law_385 rfl (lv_at hl 3 rfl) ?_
  refine pw_runH (As := [.ref (ad6 z 0), .int (xs (i + 1).toNatClampNeg), .int (xs (i + 2).toNatClampNeg), .ref (z + 116)]) (rest := []) hC mh_L_go tw_577 (c_L_go hl0 LM_x q1 q2) ⟨by decide, by decide⟩ hw hX hNC rfl hl.1 (Nat.le_of_ble_eq_true rfl) ⟨Nat.le_trans (Nat.add_le_add_left (by decide) _) hcs.1, Nat.le_trans (Nat.add_le_add_left (by decide) _) hcs.2⟩ rfl dL_law_386 (fun H locs hw => ?_)
  refine W.widen (k := cells + 8) (n := slots + 48) (Nat.add_le_add_left (by decide) _) (Nat.add_le_add_left (by decide) _) ?_
  refine lv_istore (lv' := [(5, .int (nI code)), (0, .ref b), (1, .ref (ad6 z 0)), (2, .ref (ad8 z 0)), (3, .ref (z + 116)), (4, .int i)]) hx hb dL_law_389 hl (by decide) rfl (fun ls hl => ?_)
  refine lv_aload_n hx hb dL_law_391 rfl (lv_at hl 3 rfl) ?_
  refine lv_aload_n hx hb dL_law_392 rfl (lv_at hl 1 rfl) ?_
  refine lv_iload hx hb dL_law_393 (lv_at hl 5 rfl) ?_
  refine lv_iconst (v := 1) hx hb dL_law_395 nc_iconst_1 ?_
  refine lv_iadd hx hb dL_law_396 ?_
  refine va_sld hx hb hxs hbl hbA hw.2.2.2.1 hi.2.1 dL_law_397 ?_
  refine lv_aload_n hx hb dL_law_398 rfl (lv_at hl 1 rfl) ?_
  refine lv_iload hx hb dL_law_399 (lv_at hl 5 rfl) ?_
  refine lv_iconst (v := 2) hx hb dL_law_401 nc_iconst_2 ?_
  refine lv_iadd hx hb dL_law_402 ?_
  refine va_sld hx hb hxs hbl hbA hw.2.2.2.1 hi.2.2.1 dL_law_403 ?_
  refine pw_goI hw (pw_runV (As := [.int (xs (i + 1).toNatClampNeg), .int (xs (i + 2).toNatClampNeg)]) (rest := []) hC mm_X8_go tw_1321 (c_X8_go q3 _) ⟨rfl, rfl, by decide, by decide⟩ hw LM_m rfl hl.1 (Nat.le_of_ble_eq_true rfl) ⟨hcs.1, hcs.2⟩ rfl dL_law_404) (fun H locs hw => ?_)
  refine lv_istore (lv' := [(6, .int v'), (5, .int (nI code)), (0, .ref b), (1, .ref (ad6 z 0)), (2, .ref (ad8 z 0)), (3, .ref (z + 116)), (4, .int i)]) hx hb dL_law_407 hl (by decide) rfl (fun ls hl => ?_)
  refine lv_aload_n hx hb dL_law_409 rfl (lv_at hl 4 rfl) ?_
  refine pw_goI hw (pw_runV (As := []) (rest := []) hC mm_X8_thrown tw_994 (c_X8_thrown LM_thrown _) ⟨rfl, rfl, by decide, by decide⟩ hw LM_m rfl hl.1 (Nat.le_of_ble_eq_true rfl) ⟨hcs.1, hcs.2⟩ rfl dL_law_410) (fun H locs hw => ?_)
  refine lv_iload hx hb dL_law_413 (lv_at hl 1 rfl) ?_
  refine lv_icmp_eq (tgt := 420) hx hb dL_law_415 (by decide) (fun c1 => ?_) (fun c1 => absurd q4 c1)
  refine lv_iload hx hb dL_law_420 (lv_at hl 1 rfl) ?_
  refine lv_if_ne (tgt := 444) hx hb dL_law_422 (by decide) (fun c2 => ?_) (fun c2 => ?_)
  · refine lv_goto (tgt := 1838) hx hb dL_law_444 (by decide) ?_
    exact kk _ _ _ _ _ _ _ _ _ ls R' (lv_sub hl [2, 3, 4, 5, 6] rfl) hw
  · have hc0 : code = 0 := nI_z (Nat.le_trans q6 (by decide)) c2
    refine lv_aload_n hx hb dL_law_425 rfl (lv_at hl 5 rfl) ?_
    refine lv_iconst (v := 0) hx hb dL_law_426 nc_iconst_0 ?_
    refine pw_lald hC hw LM_rd dL_law_427 ?_
    rw [show (if code = 0 then vp_updL f 0 ((fun r => if r = 0 then 0 else 1) v) else f) 0 = (fun r => if r = 0 then 0 else 1) v' from by rw [if_pos hc0, ← q5 hc0]; rfl]
    refine lv_iload hx hb dL_law_428 (lv_at hl 0 rfl) ?_
    refine lv_if_eq (tgt := 437) hx hb dL_law_430 (by decide) (fun c4 => ?_) (fun c4 => ?_)
    · refine lv_lconst (v := 0) hx hb dL_law_437 (by decide +kernel) ?_
      refine W.lcmp hx hb dL_law_438 ?_
      refine lv_if_eq (tgt := 444) hx hb dL_law_439 (by decide) (fun c3 => ?_) (fun c3 => absurd (lg_same (if_pos c4)) c3)
      refine lv_goto (tgt := 1838) hx hb dL_law_444 (by decide) ?_
      exact kk _ _ _ _ _ _ _ _ _ ls R' (lv_sub hl [2, 3, 4, 5, 6] rfl) hw
    · refine lv_lconst (v := 1) hx hb dL_law_433 (by decide +kernel) ?_
      refine lv_goto (tgt := 438) hx hb dL_law_434 (by decide) ?_
      refine W.lcmp hx hb dL_law_438 ?_
      refine lv_if_eq (tgt := 444) hx hb dL_law_439 (by decide) (fun c3 => ?_) (fun c3 => absurd (lg_same (if_neg c4)) c3)
      refine lv_goto (tgt := 1838) hx hb dL_law_444 (by decide) ?_
      exact kk _ _ _ _ _ _ _ _ _ ls R' (lv_sub hl [2, 3, 4, 5, 6] rfl) hw
set_option maxRecDepth 100000 in
set_option maxHeartbeats 4000000 in
theorem lc_6 (h : LC p l s m args c A g b N xs) (R : REL J B I Ar) (hi : vi i N) (hl : lv_has ls 8 [(0, .ref b), (1, .ref (ad6 z 0)), (2, .ref (ad8 z 0)), (3, .ref (z + 116)), (4, .int i)]) (hw : PW g (LZ [] z 117) (LM g.2 z μb f J w B I V Ar) A s H locs) (hcs : cells + 8 ≤ room_1.cells ∧ slots + 48 ≤ room_1.slots)
    (kk : ∀ (f' : Nat → Int64) (J' : Nat → Int32) (w' : Nat) (B' : Nat → Nat → Int32) (I' : Nat → Int32) (V' : Nat → Value) (A' : Nat → Nat → Int32) (H1 : Heap) (locs1 : List Loc) (ls1 : Array Slot), REL J' B' I' A' → lv_has ls1 8 [(0, .ref b), (1, .ref (ad6 z 0)), (2, .ref (ad8 z 0)), (3, .ref (z + 116)), (4, .int i)] → PW g (LZ [] z 117) (LM g.2 z μb f' J' w' B' I' V' A') A s H1 locs1 → W p l e room_1 s m args below meth c H1 locs1 (cells + 8) (slots + 48) Q (F0 m 1838 ls1 [])) : W p l e room_1 s m args below meth c H locs cells slots Q (F0 m 447 ls []) := by
  obtain ⟨hC, hl0, hX, hNC, hxs, hbl, hbA⟩ := h
  have hx := hC.1
  have hb := hC.2.1
  obtain ⟨J', w', B', I', V', A', code, v, v', res, q1, q2, q3, q4, q5, q6, R', -⟩ := lw_G' (μb := μb) (f := f) (fx := fun μ => f_X6_find g.2 (ad6 z 0) (xs (i + 1).toNatClampNeg) μ) (fy := fun μ => f_X8_find g.2 (ad8 z 0) (xs (i + 1).toNatClampNeg) μ) (fun μ0 μ1 => k_find (lay6z z) (lay8z z) R _) Int32.toInt64
  refine lv_aload_n hx hb dL_law_447 rfl (lv_at hl 1 rfl) ?_
  refine lv_aload_n hx hb dL_law_448 rfl (lv_at hl 0 rfl) ?_
  refine lv_iload hx hb dL_law_449 (lv_at hl 4 rfl) ?_
  refine lv_iconst (v := 1) hx hb dL_law_451 nc_iconst_1 ?_
  refine lv_iadd hx hb dL_law_452 ?_
  refine va_sld hx hb hxs hbl hbA hw.2.2.2.1 hi.2.1 dL_law_453 ?_
  refine lv_aload_n hx hb dL_law_454 rfl (lv_at hl 3 rfl) ?_
  refine pw_runH (As := [.ref (ad6 z 0), .int (xs (i + 1).toNatClampNeg), .ref (z + 116)]) (rest := []) hC mh_L_find tw_588 (c_L_find hl0 LM_x q1 q2) ⟨by decide, by decide⟩ hw hX hNC rfl hl.1 (Nat.le_of_ble_eq_true rfl) ⟨Nat.le_trans (Nat.add_le_add_left (by decide) _) hcs.1, Nat.le_trans (Nat.add_le_add_left (by decide) _) hcs.2⟩ rfl dL_law_455 (fun H locs hw => ?_)
  refine W.widen (k := cells + 8) (n := slots + 48) (Nat.add_le_add_left (by decide) _) (Nat.add_le_add_left (by decide) _) ?_
  refine lv_istore (lv' := [(5, .int (nI code)), (0, .ref b), (1, .ref (ad6 z 0)), (2, .ref (ad8 z 0)), (3, .ref (z + 116)), (4, .int i)]) hx hb dL_law_458 hl (by decide) rfl (fun ls hl => ?_)
  refine lv_aload_n hx hb dL_law_460 rfl (lv_at hl 3 rfl) ?_
  refine lv_aload_n hx hb dL_law_461 rfl (lv_at hl 1 rfl) ?_
  refine lv_iload hx hb dL_law_462 (lv_at hl 5 rfl) ?_
  refine lv_iconst (v := 1) hx hb dL_law_464 nc_iconst_1 ?_
  refine lv_iadd hx hb dL_law_465 ?_
  refine va_sld hx hb hxs hbl hbA hw.2.2.2.1 hi.2.1 dL_law_466 ?_
  refine pw_goI hw (pw_runV (As := [.int (xs (i + 1).toNatClampNeg)]) (rest := []) hC mm_X8_find tw_1350 (c_X8_find q3 _) ⟨rfl, rfl, by decide, by decide⟩ hw LM_m rfl hl.1 (Nat.le_of_ble_eq_true rfl) ⟨hcs.1, hcs.2⟩ rfl dL_law_467) (fun H locs hw => ?_)
  refine lv_istore (lv' := [(6, .int v'), (5, .int (nI code)), (0, .ref b), (1, .ref (ad6 z 0)), (2, .ref (ad8 z 0)), (3, .ref (z + 116)), (4, .int i)]) hx hb dL_law_470 hl (by decide) rfl (fun ls hl => ?_)
  refine lv_aload_n hx hb dL_law_472 rfl (lv_at hl 4 rfl) ?_
  refine pw_goI hw (pw_runV (As := []) (rest := []) hC mm_X8_thrown tw_994 (c_X8_thrown LM_thrown _) ⟨rfl, rfl, by decide, by decide⟩ hw LM_m rfl hl.1 (Nat.le_of_ble_eq_true rfl) ⟨hcs.1, hcs.2⟩ rfl dL_law_473) (fun H locs hw => ?_)
  refine lv_iload hx hb dL_law_476 (lv_at hl 1 rfl) ?_
  refine lv_icmp_eq (tgt := 483) hx hb dL_law_478 (by decide) (fun c1 => ?_) (fun c1 => absurd q4 c1)
  refine lv_iload hx hb dL_law_483 (lv_at hl 1 rfl) ?_
  refine lv_if_ne (tgt := 500) hx hb dL_law_485 (by decide) (fun c2 => ?_) (fun c2 => ?_)
  · refine lv_goto (tgt := 1838) hx hb dL_law_500 (by decide) ?_
    exact kk _ _ _ _ _ _ _ _ _ ls R' (lv_sub hl [2, 3, 4, 5, 6] rfl) hw
  · have hc0 : code = 0 := nI_z (Nat.le_trans q6 (by decide)) c2
    refine lv_aload_n hx hb dL_law_488 rfl (lv_at hl 5 rfl) ?_
    refine lv_iconst (v := 0) hx hb dL_law_489 nc_iconst_0 ?_
    refine pw_lald hC hw LM_rd dL_law_490 ?_
    rw [show (if code = 0 then vp_updL f 0 (Int32.toInt64 v) else f) 0 = Int32.toInt64 v' from by rw [if_pos hc0, ← q5 hc0]; rfl]
    refine lv_iload hx hb dL_law_491 (lv_at hl 0 rfl) ?_
    refine lv_i2l hx hb dL_law_493 rfl ?_
    refine W.lcmp hx hb dL_law_494 ?_
    refine lv_if_eq (tgt := 500) hx hb dL_law_495 (by decide) (fun c3 => ?_) (fun c3 => absurd (lg_same rfl) c3)
    refine lv_goto (tgt := 1838) hx hb dL_law_500 (by decide) ?_
    exact kk _ _ _ _ _ _ _ _ _ ls R' (lv_sub hl [2, 3, 4, 5, 6] rfl) hw
set_option maxRecDepth 100000 in
set_option maxHeartbeats 4000000 in
theorem lc_7 (h : LC p l s m args c A g b N xs) (R : REL J B I Ar) (hi : vi i N) (hl : lv_has ls 8 [(0, .ref b), (1, .ref (ad6 z 0)), (2, .ref (ad8 z 0)), (3, .ref (z + 116)), (4, .int i)]) (hw : PW g (LZ [] z 117) (LM g.2 z μb f J w B I V Ar) A s H locs) (hcs : cells + 8 ≤ room_1.cells ∧ slots + 48 ≤ room_1.slots)
    (kk : ∀ (f' : Nat → Int64) (J' : Nat → Int32) (w' : Nat) (B' : Nat → Nat → Int32) (I' : Nat → Int32) (V' : Nat → Value) (A' : Nat → Nat → Int32) (H1 : Heap) (locs1 : List Loc) (ls1 : Array Slot), REL J' B' I' A' → lv_has ls1 8 [(0, .ref b), (1, .ref (ad6 z 0)), (2, .ref (ad8 z 0)), (3, .ref (z + 116)), (4, .int i)] → PW g (LZ [] z 117) (LM g.2 z μb f' J' w' B' I' V' A') A s H1 locs1 → W p l e room_1 s m args below meth c H1 locs1 (cells + 8) (slots + 48) Q (F0 m 1838 ls1 [])) : W p l e room_1 s m args below meth c H locs cells slots Q (F0 m 503 ls []) := by
  obtain ⟨hC, hl0, hX, hNC, hxs, hbl, hbA⟩ := h
  have hx := hC.1
  have hb := hC.2.1
  obtain ⟨J', w', B', I', V', A', code, v, v', res, q1, q2, q3, q4, q5, q6, R', -⟩ := lw_G' (μb := μb) (f := f) (fx := fun μ => f_X6_path g.2 (ad6 z 0) (xs (i + 1).toNatClampNeg) μ) (fy := fun μ => f_X8_path g.2 (ad8 z 0) (xs (i + 1).toNatClampNeg) μ) (fun μ0 μ1 => k_path (lay6z z) (lay8z z) R _) Int32.toInt64
  refine lv_aload_n hx hb dL_law_503 rfl (lv_at hl 1 rfl) ?_
  refine lv_aload_n hx hb dL_law_504 rfl (lv_at hl 0 rfl) ?_
  refine lv_iload hx hb dL_law_505 (lv_at hl 4 rfl) ?_
  refine lv_iconst (v := 1) hx hb dL_law_507 nc_iconst_1 ?_
  refine lv_iadd hx hb dL_law_508 ?_
  refine va_sld hx hb hxs hbl hbA hw.2.2.2.1 hi.2.1 dL_law_509 ?_
  refine lv_aload_n hx hb dL_law_510 rfl (lv_at hl 3 rfl) ?_
  refine pw_runH (As := [.ref (ad6 z 0), .int (xs (i + 1).toNatClampNeg), .ref (z + 116)]) (rest := []) hC mh_L_path tw_607 (c_L_path hl0 LM_x q1 q2) ⟨by decide, by decide⟩ hw hX hNC rfl hl.1 (Nat.le_of_ble_eq_true rfl) ⟨Nat.le_trans (Nat.add_le_add_left (by decide) _) hcs.1, Nat.le_trans (Nat.add_le_add_left (by decide) _) hcs.2⟩ rfl dL_law_511 (fun H locs hw => ?_)
  refine W.widen (k := cells + 8) (n := slots + 48) (Nat.add_le_add_left (by decide) _) (Nat.add_le_add_left (by decide) _) ?_
  refine lv_istore (lv' := [(5, .int (nI code)), (0, .ref b), (1, .ref (ad6 z 0)), (2, .ref (ad8 z 0)), (3, .ref (z + 116)), (4, .int i)]) hx hb dL_law_514 hl (by decide) rfl (fun ls hl => ?_)
  refine lv_aload_n hx hb dL_law_516 rfl (lv_at hl 3 rfl) ?_
  refine lv_aload_n hx hb dL_law_517 rfl (lv_at hl 1 rfl) ?_
  refine lv_iload hx hb dL_law_518 (lv_at hl 5 rfl) ?_
  refine lv_iconst (v := 1) hx hb dL_law_520 nc_iconst_1 ?_
  refine lv_iadd hx hb dL_law_521 ?_
  refine va_sld hx hb hxs hbl hbA hw.2.2.2.1 hi.2.1 dL_law_522 ?_
  refine pw_goI hw (pw_runV (As := [.int (xs (i + 1).toNatClampNeg)]) (rest := []) hC mm_X8_path tw_1362 (c_X8_path q3 _) ⟨rfl, rfl, by decide, by decide⟩ hw LM_m rfl hl.1 (Nat.le_of_ble_eq_true rfl) ⟨hcs.1, hcs.2⟩ rfl dL_law_523) (fun H locs hw => ?_)
  refine lv_istore (lv' := [(6, .int v'), (5, .int (nI code)), (0, .ref b), (1, .ref (ad6 z 0)), (2, .ref (ad8 z 0)), (3, .ref (z + 116)), (4, .int i)]) hx hb dL_law_526 hl (by decide) rfl (fun ls hl => ?_)
  refine lv_aload_n hx hb dL_law_528 rfl (lv_at hl 4 rfl) ?_
  refine pw_goI hw (pw_runV (As := []) (rest := []) hC mm_X8_thrown tw_994 (c_X8_thrown LM_thrown _) ⟨rfl, rfl, by decide, by decide⟩ hw LM_m rfl hl.1 (Nat.le_of_ble_eq_true rfl) ⟨hcs.1, hcs.2⟩ rfl dL_law_529) (fun H locs hw => ?_)
  refine lv_iload hx hb dL_law_532 (lv_at hl 1 rfl) ?_
  refine lv_icmp_eq (tgt := 539) hx hb dL_law_534 (by decide) (fun c1 => ?_) (fun c1 => absurd q4 c1)
  refine lv_iload hx hb dL_law_539 (lv_at hl 1 rfl) ?_
  refine lv_if_ne (tgt := 556) hx hb dL_law_541 (by decide) (fun c2 => ?_) (fun c2 => ?_)
  · refine lv_goto (tgt := 1838) hx hb dL_law_556 (by decide) ?_
    exact kk _ _ _ _ _ _ _ _ _ ls R' (lv_sub hl [2, 3, 4, 5, 6] rfl) hw
  · have hc0 : code = 0 := nI_z (Nat.le_trans q6 (by decide)) c2
    refine lv_aload_n hx hb dL_law_544 rfl (lv_at hl 5 rfl) ?_
    refine lv_iconst (v := 0) hx hb dL_law_545 nc_iconst_0 ?_
    refine pw_lald hC hw LM_rd dL_law_546 ?_
    rw [show (if code = 0 then vp_updL f 0 (Int32.toInt64 v) else f) 0 = Int32.toInt64 v' from by rw [if_pos hc0, ← q5 hc0]; rfl]
    refine lv_iload hx hb dL_law_547 (lv_at hl 0 rfl) ?_
    refine lv_i2l hx hb dL_law_549 rfl ?_
    refine W.lcmp hx hb dL_law_550 ?_
    refine lv_if_eq (tgt := 556) hx hb dL_law_551 (by decide) (fun c3 => ?_) (fun c3 => absurd (lg_same rfl) c3)
    refine lv_goto (tgt := 1838) hx hb dL_law_556 (by decide) ?_
    exact kk _ _ _ _ _ _ _ _ _ ls R' (lv_sub hl [2, 3, 4, 5, 6] rfl) hw
set_option maxRecDepth 100000 in
set_option maxHeartbeats 4000000 in
theorem lc_8 (h : LC p l s m args c A g b N xs) (R : REL J B I Ar) (hi : vi i N) (hl : lv_has ls 8 [(0, .ref b), (1, .ref (ad6 z 0)), (2, .ref (ad8 z 0)), (3, .ref (z + 116)), (4, .int i)]) (hw : PW g (LZ [] z 117) (LM g.2 z μb f J w B I V Ar) A s H locs) (hcs : cells + 8 ≤ room_1.cells ∧ slots + 48 ≤ room_1.slots)
    (kk : ∀ (f' : Nat → Int64) (J' : Nat → Int32) (w' : Nat) (B' : Nat → Nat → Int32) (I' : Nat → Int32) (V' : Nat → Value) (A' : Nat → Nat → Int32) (H1 : Heap) (locs1 : List Loc) (ls1 : Array Slot), REL J' B' I' A' → lv_has ls1 8 [(0, .ref b), (1, .ref (ad6 z 0)), (2, .ref (ad8 z 0)), (3, .ref (z + 116)), (4, .int i)] → PW g (LZ [] z 117) (LM g.2 z μb f' J' w' B' I' V' A') A s H1 locs1 → W p l e room_1 s m args below meth c H1 locs1 (cells + 8) (slots + 48) Q (F0 m 1838 ls1 [])) : W p l e room_1 s m args below meth c H locs cells slots Q (F0 m 559 ls []) := by
  obtain ⟨hC, hl0, hX, hNC, hxs, hbl, hbA⟩ := h
  have hx := hC.1
  have hb := hC.2.1
  obtain ⟨J', w', B', I', V', A', code, v, v', res, q1, q2, q3, q4, q5, q6, R', -⟩ := lw_G' (μb := μb) (f := f) (fx := fun μ => f_X6_in g.2 (ad6 z 0) (xs (i + 1).toNatClampNeg) μ) (fy := fun μ => f_X8_in g.2 (ad8 z 0) (xs (i + 1).toNatClampNeg) μ) (fun μ0 μ1 => k_in (lay6z z) (lay8z z) R _) (fun r => if r = 0 then 0 else 1)
  refine lv_aload_n hx hb dL_law_559 rfl (lv_at hl 1 rfl) ?_
  refine lv_aload_n hx hb dL_law_560 rfl (lv_at hl 0 rfl) ?_
  refine lv_iload hx hb dL_law_561 (lv_at hl 4 rfl) ?_
  refine lv_iconst (v := 1) hx hb dL_law_563 nc_iconst_1 ?_
  refine lv_iadd hx hb dL_law_564 ?_
  refine va_sld hx hb hxs hbl hbA hw.2.2.2.1 hi.2.1 dL_law_565 ?_
  refine lv_aload_n hx hb dL_law_566 rfl (lv_at hl 3 rfl) ?_
  refine pw_runH (As := [.ref (ad6 z 0), .int (xs (i + 1).toNatClampNeg), .ref (z + 116)]) (rest := []) hC mh_L_in tw_635 (c_L_in hl0 LM_x q1 q2) ⟨by decide, by decide⟩ hw hX hNC rfl hl.1 (Nat.le_of_ble_eq_true rfl) ⟨Nat.le_trans (Nat.add_le_add_left (by decide) _) hcs.1, Nat.le_trans (Nat.add_le_add_left (by decide) _) hcs.2⟩ rfl dL_law_567 (fun H locs hw => ?_)
  refine W.widen (k := cells + 8) (n := slots + 48) (Nat.add_le_add_left (by decide) _) (Nat.add_le_add_left (by decide) _) ?_
  refine lv_istore (lv' := [(5, .int (nI code)), (0, .ref b), (1, .ref (ad6 z 0)), (2, .ref (ad8 z 0)), (3, .ref (z + 116)), (4, .int i)]) hx hb dL_law_570 hl (by decide) rfl (fun ls hl => ?_)
  refine lv_aload_n hx hb dL_law_572 rfl (lv_at hl 3 rfl) ?_
  refine lv_aload_n hx hb dL_law_573 rfl (lv_at hl 1 rfl) ?_
  refine lv_iload hx hb dL_law_574 (lv_at hl 5 rfl) ?_
  refine lv_iconst (v := 1) hx hb dL_law_576 nc_iconst_1 ?_
  refine lv_iadd hx hb dL_law_577 ?_
  refine va_sld hx hb hxs hbl hbA hw.2.2.2.1 hi.2.1 dL_law_578 ?_
  refine pw_goI hw (pw_runV (As := [.int (xs (i + 1).toNatClampNeg)]) (rest := []) hC mm_X8_in tw_1366 (c_X8_in q3 _) ⟨rfl, rfl, by decide, by decide⟩ hw LM_m rfl hl.1 (Nat.le_of_ble_eq_true rfl) ⟨hcs.1, hcs.2⟩ rfl dL_law_579) (fun H locs hw => ?_)
  refine lv_istore (lv' := [(6, .int v'), (5, .int (nI code)), (0, .ref b), (1, .ref (ad6 z 0)), (2, .ref (ad8 z 0)), (3, .ref (z + 116)), (4, .int i)]) hx hb dL_law_582 hl (by decide) rfl (fun ls hl => ?_)
  refine lv_aload_n hx hb dL_law_584 rfl (lv_at hl 4 rfl) ?_
  refine pw_goI hw (pw_runV (As := []) (rest := []) hC mm_X8_thrown tw_994 (c_X8_thrown LM_thrown _) ⟨rfl, rfl, by decide, by decide⟩ hw LM_m rfl hl.1 (Nat.le_of_ble_eq_true rfl) ⟨hcs.1, hcs.2⟩ rfl dL_law_585) (fun H locs hw => ?_)
  refine lv_iload hx hb dL_law_588 (lv_at hl 1 rfl) ?_
  refine lv_icmp_eq (tgt := 595) hx hb dL_law_590 (by decide) (fun c1 => ?_) (fun c1 => absurd q4 c1)
  refine lv_iload hx hb dL_law_595 (lv_at hl 1 rfl) ?_
  refine lv_if_ne (tgt := 619) hx hb dL_law_597 (by decide) (fun c2 => ?_) (fun c2 => ?_)
  · refine lv_goto (tgt := 1838) hx hb dL_law_619 (by decide) ?_
    exact kk _ _ _ _ _ _ _ _ _ ls R' (lv_sub hl [2, 3, 4, 5, 6] rfl) hw
  · have hc0 : code = 0 := nI_z (Nat.le_trans q6 (by decide)) c2
    refine lv_aload_n hx hb dL_law_600 rfl (lv_at hl 5 rfl) ?_
    refine lv_iconst (v := 0) hx hb dL_law_601 nc_iconst_0 ?_
    refine pw_lald hC hw LM_rd dL_law_602 ?_
    rw [show (if code = 0 then vp_updL f 0 ((fun r => if r = 0 then 0 else 1) v) else f) 0 = (fun r => if r = 0 then 0 else 1) v' from by rw [if_pos hc0, ← q5 hc0]; rfl]
    refine lv_iload hx hb dL_law_603 (lv_at hl 0 rfl) ?_
    refine lv_if_eq (tgt := 612) hx hb dL_law_605 (by decide) (fun c4 => ?_) (fun c4 => ?_)
    · refine lv_lconst (v := 0) hx hb dL_law_612 (by decide +kernel) ?_
      refine W.lcmp hx hb dL_law_613 ?_
      refine lv_if_eq (tgt := 619) hx hb dL_law_614 (by decide) (fun c3 => ?_) (fun c3 => absurd (lg_same (if_pos c4)) c3)
      refine lv_goto (tgt := 1838) hx hb dL_law_619 (by decide) ?_
      exact kk _ _ _ _ _ _ _ _ _ ls R' (lv_sub hl [2, 3, 4, 5, 6] rfl) hw
    · refine lv_lconst (v := 1) hx hb dL_law_608 (by decide +kernel) ?_
      refine lv_goto (tgt := 613) hx hb dL_law_609 (by decide) ?_
      refine W.lcmp hx hb dL_law_613 ?_
      refine lv_if_eq (tgt := 619) hx hb dL_law_614 (by decide) (fun c3 => ?_) (fun c3 => absurd (lg_same (if_neg c4)) c3)
      refine lv_goto (tgt := 1838) hx hb dL_law_619 (by decide) ?_
      exact kk _ _ _ _ _ _ _ _ _ ls R' (lv_sub hl [2, 3, 4, 5, 6] rfl) hw
set_option maxRecDepth 100000 in
set_option maxHeartbeats 4000000 in
theorem lc_9 (h : LC p l s m args c A g b N xs) (R : REL J B I Ar) (hi : vi i N) (hl : lv_has ls 8 [(0, .ref b), (1, .ref (ad6 z 0)), (2, .ref (ad8 z 0)), (3, .ref (z + 116)), (4, .int i)]) (hw : PW g (LZ [] z 117) (LM g.2 z μb f J w B I V Ar) A s H locs) (hcs : cells + 8 ≤ room_1.cells ∧ slots + 48 ≤ room_1.slots)
    (kk : ∀ (f' : Nat → Int64) (J' : Nat → Int32) (w' : Nat) (B' : Nat → Nat → Int32) (I' : Nat → Int32) (V' : Nat → Value) (A' : Nat → Nat → Int32) (H1 : Heap) (locs1 : List Loc) (ls1 : Array Slot), REL J' B' I' A' → lv_has ls1 8 [(0, .ref b), (1, .ref (ad6 z 0)), (2, .ref (ad8 z 0)), (3, .ref (z + 116)), (4, .int i)] → PW g (LZ [] z 117) (LM g.2 z μb f' J' w' B' I' V' A') A s H1 locs1 → W p l e room_1 s m args below meth c H1 locs1 (cells + 8) (slots + 48) Q (F0 m 1838 ls1 [])) : W p l e room_1 s m args below meth c H locs cells slots Q (F0 m 622 ls []) := by
  obtain ⟨hC, hl0, hX, hNC, hxs, hbl, hbA⟩ := h
  have hx := hC.1
  have hb := hC.2.1
  obtain ⟨J', w', B', I', V', A', code, v, v', res, q1, q2, q3, q4, q5, q6, R', -⟩ := lw_G' (μb := μb) (f := f) (fx := fun μ => f_X6_out g.2 (ad6 z 0) (xs (i + 1).toNatClampNeg) μ) (fy := fun μ => f_X8_out g.2 (ad8 z 0) (xs (i + 1).toNatClampNeg) μ) (fun μ0 μ1 => k_out (lay6z z) (lay8z z) R _) (fun r => if r = 0 then 0 else 1)
  refine lv_aload_n hx hb dL_law_622 rfl (lv_at hl 1 rfl) ?_
  refine lv_aload_n hx hb dL_law_623 rfl (lv_at hl 0 rfl) ?_
  refine lv_iload hx hb dL_law_624 (lv_at hl 4 rfl) ?_
  refine lv_iconst (v := 1) hx hb dL_law_626 nc_iconst_1 ?_
  refine lv_iadd hx hb dL_law_627 ?_
  refine va_sld hx hb hxs hbl hbA hw.2.2.2.1 hi.2.1 dL_law_628 ?_
  refine lv_aload_n hx hb dL_law_629 rfl (lv_at hl 3 rfl) ?_
  refine pw_runH (As := [.ref (ad6 z 0), .int (xs (i + 1).toNatClampNeg), .ref (z + 116)]) (rest := []) hC mh_L_out tw_642 (c_L_out hl0 LM_x q1 q2) ⟨by decide, by decide⟩ hw hX hNC rfl hl.1 (Nat.le_of_ble_eq_true rfl) ⟨Nat.le_trans (Nat.add_le_add_left (by decide) _) hcs.1, Nat.le_trans (Nat.add_le_add_left (by decide) _) hcs.2⟩ rfl dL_law_630 (fun H locs hw => ?_)
  refine W.widen (k := cells + 8) (n := slots + 48) (Nat.add_le_add_left (by decide) _) (Nat.add_le_add_left (by decide) _) ?_
  refine lv_istore (lv' := [(5, .int (nI code)), (0, .ref b), (1, .ref (ad6 z 0)), (2, .ref (ad8 z 0)), (3, .ref (z + 116)), (4, .int i)]) hx hb dL_law_633 hl (by decide) rfl (fun ls hl => ?_)
  refine lv_aload_n hx hb dL_law_635 rfl (lv_at hl 3 rfl) ?_
  refine lv_aload_n hx hb dL_law_636 rfl (lv_at hl 1 rfl) ?_
  refine lv_iload hx hb dL_law_637 (lv_at hl 5 rfl) ?_
  refine lv_iconst (v := 1) hx hb dL_law_639 nc_iconst_1 ?_
  refine lv_iadd hx hb dL_law_640 ?_
  refine va_sld hx hb hxs hbl hbA hw.2.2.2.1 hi.2.1 dL_law_641 ?_
  refine pw_goI hw (pw_runV (As := [.int (xs (i + 1).toNatClampNeg)]) (rest := []) hC mm_X8_out tw_1370 (c_X8_out q3 _) ⟨rfl, rfl, by decide, by decide⟩ hw LM_m rfl hl.1 (Nat.le_of_ble_eq_true rfl) ⟨hcs.1, hcs.2⟩ rfl dL_law_642) (fun H locs hw => ?_)
  refine lv_istore (lv' := [(6, .int v'), (5, .int (nI code)), (0, .ref b), (1, .ref (ad6 z 0)), (2, .ref (ad8 z 0)), (3, .ref (z + 116)), (4, .int i)]) hx hb dL_law_645 hl (by decide) rfl (fun ls hl => ?_)
  refine lv_aload_n hx hb dL_law_647 rfl (lv_at hl 4 rfl) ?_
  refine pw_goI hw (pw_runV (As := []) (rest := []) hC mm_X8_thrown tw_994 (c_X8_thrown LM_thrown _) ⟨rfl, rfl, by decide, by decide⟩ hw LM_m rfl hl.1 (Nat.le_of_ble_eq_true rfl) ⟨hcs.1, hcs.2⟩ rfl dL_law_648) (fun H locs hw => ?_)
  refine lv_iload hx hb dL_law_651 (lv_at hl 1 rfl) ?_
  refine lv_icmp_eq (tgt := 658) hx hb dL_law_653 (by decide) (fun c1 => ?_) (fun c1 => absurd q4 c1)
  refine lv_iload hx hb dL_law_658 (lv_at hl 1 rfl) ?_
  refine lv_if_ne (tgt := 682) hx hb dL_law_660 (by decide) (fun c2 => ?_) (fun c2 => ?_)
  · refine lv_goto (tgt := 1838) hx hb dL_law_682 (by decide) ?_
    exact kk _ _ _ _ _ _ _ _ _ ls R' (lv_sub hl [2, 3, 4, 5, 6] rfl) hw
  · have hc0 : code = 0 := nI_z (Nat.le_trans q6 (by decide)) c2
    refine lv_aload_n hx hb dL_law_663 rfl (lv_at hl 5 rfl) ?_
    refine lv_iconst (v := 0) hx hb dL_law_664 nc_iconst_0 ?_
    refine pw_lald hC hw LM_rd dL_law_665 ?_
    rw [show (if code = 0 then vp_updL f 0 ((fun r => if r = 0 then 0 else 1) v) else f) 0 = (fun r => if r = 0 then 0 else 1) v' from by rw [if_pos hc0, ← q5 hc0]; rfl]
    refine lv_iload hx hb dL_law_666 (lv_at hl 0 rfl) ?_
    refine lv_if_eq (tgt := 675) hx hb dL_law_668 (by decide) (fun c4 => ?_) (fun c4 => ?_)
    · refine lv_lconst (v := 0) hx hb dL_law_675 (by decide +kernel) ?_
      refine W.lcmp hx hb dL_law_676 ?_
      refine lv_if_eq (tgt := 682) hx hb dL_law_677 (by decide) (fun c3 => ?_) (fun c3 => absurd (lg_same (if_pos c4)) c3)
      refine lv_goto (tgt := 1838) hx hb dL_law_682 (by decide) ?_
      exact kk _ _ _ _ _ _ _ _ _ ls R' (lv_sub hl [2, 3, 4, 5, 6] rfl) hw
    · refine lv_lconst (v := 1) hx hb dL_law_671 (by decide +kernel) ?_
      refine lv_goto (tgt := 676) hx hb dL_law_672 (by decide) ?_
      refine W.lcmp hx hb dL_law_676 ?_
      refine lv_if_eq (tgt := 682) hx hb dL_law_677 (by decide) (fun c3 => ?_) (fun c3 => absurd (lg_same (if_neg c4)) c3)
      refine lv_goto (tgt := 1838) hx hb dL_law_682 (by decide) ?_
      exact kk _ _ _ _ _ _ _ _ _ ls R' (lv_sub hl [2, 3, 4, 5, 6] rfl) hw
set_option maxRecDepth 100000 in
set_option maxHeartbeats 4000000 in
theorem lc_10 (h : LC p l s m args c A g b N xs) (R : REL J B I Ar) (hi : vi i N) (hl : lv_has ls 8 [(0, .ref b), (1, .ref (ad6 z 0)), (2, .ref (ad8 z 0)), (3, .ref (z + 116)), (4, .int i)]) (hw : PW g (LZ [] z 117) (LM g.2 z μb f J w B I V Ar) A s H locs) (hcs : cells + 8 ≤ room_1.cells ∧ slots + 48 ≤ room_1.slots)
    (kk : ∀ (f' : Nat → Int64) (J' : Nat → Int32) (w' : Nat) (B' : Nat → Nat → Int32) (I' : Nat → Int32) (V' : Nat → Value) (A' : Nat → Nat → Int32) (H1 : Heap) (locs1 : List Loc) (ls1 : Array Slot), REL J' B' I' A' → lv_has ls1 8 [(0, .ref b), (1, .ref (ad6 z 0)), (2, .ref (ad8 z 0)), (3, .ref (z + 116)), (4, .int i)] → PW g (LZ [] z 117) (LM g.2 z μb f' J' w' B' I' V' A') A s H1 locs1 → W p l e room_1 s m args below meth c H1 locs1 (cells + 8) (slots + 48) Q (F0 m 1838 ls1 [])) : W p l e room_1 s m args below meth c H locs cells slots Q (F0 m 685 ls []) := by
  obtain ⟨hC, hl0, hX, hNC, hxs, hbl, hbA⟩ := h
  have hx := hC.1
  have hb := hC.2.1
  obtain ⟨J', w', B', I', V', A', code, v, v', res, q1, q2, q3, q4, q5, q6, R', -⟩ := lw_G' (μb := μb) (f := f) (fx := fun μ => f_X6_look g.2 (ad6 z 0) (xs (i + 1).toNatClampNeg) (xs (i + 2).toNatClampNeg) μ) (fy := fun μ => f_X8_look g.2 (ad8 z 0) (xs (i + 1).toNatClampNeg) (xs (i + 2).toNatClampNeg) μ) (fun μ0 μ1 => k_look (lay6z z) (lay8z z) R _ _) Int32.toInt64
  refine lv_aload_n hx hb dL_law_685 rfl (lv_at hl 1 rfl) ?_
  refine lv_aload_n hx hb dL_law_686 rfl (lv_at hl 0 rfl) ?_
  refine lv_iload hx hb dL_law_687 (lv_at hl 4 rfl) ?_
  refine lv_iconst (v := 1) hx hb dL_law_689 nc_iconst_1 ?_
  refine lv_iadd hx hb dL_law_690 ?_
  refine va_sld hx hb hxs hbl hbA hw.2.2.2.1 hi.2.1 dL_law_691 ?_
  refine lv_aload_n hx hb dL_law_692 rfl (lv_at hl 0 rfl) ?_
  refine lv_iload hx hb dL_law_693 (lv_at hl 4 rfl) ?_
  refine lv_iconst (v := 2) hx hb dL_law_695 nc_iconst_2 ?_
  refine lv_iadd hx hb dL_law_696 ?_
  refine va_sld hx hb hxs hbl hbA hw.2.2.2.1 hi.2.2.1 dL_law_697 ?_
  refine lv_aload_n hx hb dL_law_698 rfl (lv_at hl 3 rfl) ?_
  refine pw_runH (As := [.ref (ad6 z 0), .int (xs (i + 1).toNatClampNeg), .int (xs (i + 2).toNatClampNeg), .ref (z + 116)]) (rest := []) hC mh_L_look tw_653 (c_L_look hl0 LM_x q1 q2) ⟨by decide, by decide⟩ hw hX hNC rfl hl.1 (Nat.le_of_ble_eq_true rfl) ⟨Nat.le_trans (Nat.add_le_add_left (by decide) _) hcs.1, Nat.le_trans (Nat.add_le_add_left (by decide) _) hcs.2⟩ rfl dL_law_699 (fun H locs hw => ?_)
  refine W.widen (k := cells + 8) (n := slots + 48) (Nat.add_le_add_left (by decide) _) (Nat.add_le_add_left (by decide) _) ?_
  refine lv_istore (lv' := [(5, .int (nI code)), (0, .ref b), (1, .ref (ad6 z 0)), (2, .ref (ad8 z 0)), (3, .ref (z + 116)), (4, .int i)]) hx hb dL_law_702 hl (by decide) rfl (fun ls hl => ?_)
  refine lv_aload_n hx hb dL_law_704 rfl (lv_at hl 3 rfl) ?_
  refine lv_aload_n hx hb dL_law_705 rfl (lv_at hl 1 rfl) ?_
  refine lv_iload hx hb dL_law_706 (lv_at hl 5 rfl) ?_
  refine lv_iconst (v := 1) hx hb dL_law_708 nc_iconst_1 ?_
  refine lv_iadd hx hb dL_law_709 ?_
  refine va_sld hx hb hxs hbl hbA hw.2.2.2.1 hi.2.1 dL_law_710 ?_
  refine lv_aload_n hx hb dL_law_711 rfl (lv_at hl 1 rfl) ?_
  refine lv_iload hx hb dL_law_712 (lv_at hl 5 rfl) ?_
  refine lv_iconst (v := 2) hx hb dL_law_714 nc_iconst_2 ?_
  refine lv_iadd hx hb dL_law_715 ?_
  refine va_sld hx hb hxs hbl hbA hw.2.2.2.1 hi.2.2.1 dL_law_716 ?_
  refine pw_goI hw (pw_runV (As := [.int (xs (i + 1).toNatClampNeg), .int (xs (i + 2).toNatClampNeg)]) (rest := []) hC mm_X8_look tw_1374 (c_X8_look q3 _) ⟨rfl, rfl, by decide, by decide⟩ hw LM_m rfl hl.1 (Nat.le_of_ble_eq_true rfl) ⟨hcs.1, hcs.2⟩ rfl dL_law_717) (fun H locs hw => ?_)
  refine lv_istore (lv' := [(6, .int v'), (5, .int (nI code)), (0, .ref b), (1, .ref (ad6 z 0)), (2, .ref (ad8 z 0)), (3, .ref (z + 116)), (4, .int i)]) hx hb dL_law_720 hl (by decide) rfl (fun ls hl => ?_)
  refine lv_aload_n hx hb dL_law_722 rfl (lv_at hl 4 rfl) ?_
  refine pw_goI hw (pw_runV (As := []) (rest := []) hC mm_X8_thrown tw_994 (c_X8_thrown LM_thrown _) ⟨rfl, rfl, by decide, by decide⟩ hw LM_m rfl hl.1 (Nat.le_of_ble_eq_true rfl) ⟨hcs.1, hcs.2⟩ rfl dL_law_723) (fun H locs hw => ?_)
  refine lv_iload hx hb dL_law_726 (lv_at hl 1 rfl) ?_
  refine lv_icmp_eq (tgt := 733) hx hb dL_law_728 (by decide) (fun c1 => ?_) (fun c1 => absurd q4 c1)
  refine lv_iload hx hb dL_law_733 (lv_at hl 1 rfl) ?_
  refine lv_if_ne (tgt := 750) hx hb dL_law_735 (by decide) (fun c2 => ?_) (fun c2 => ?_)
  · refine lv_goto (tgt := 1838) hx hb dL_law_750 (by decide) ?_
    exact kk _ _ _ _ _ _ _ _ _ ls R' (lv_sub hl [2, 3, 4, 5, 6] rfl) hw
  · have hc0 : code = 0 := nI_z (Nat.le_trans q6 (by decide)) c2
    refine lv_aload_n hx hb dL_law_738 rfl (lv_at hl 5 rfl) ?_
    refine lv_iconst (v := 0) hx hb dL_law_739 nc_iconst_0 ?_
    refine pw_lald hC hw LM_rd dL_law_740 ?_
    rw [show (if code = 0 then vp_updL f 0 (Int32.toInt64 v) else f) 0 = Int32.toInt64 v' from by rw [if_pos hc0, ← q5 hc0]; rfl]
    refine lv_iload hx hb dL_law_741 (lv_at hl 0 rfl) ?_
    refine lv_i2l hx hb dL_law_743 rfl ?_
    refine W.lcmp hx hb dL_law_744 ?_
    refine lv_if_eq (tgt := 750) hx hb dL_law_745 (by decide) (fun c3 => ?_) (fun c3 => absurd (lg_same rfl) c3)
    refine lv_goto (tgt := 1838) hx hb dL_law_750 (by decide) ?_
    exact kk _ _ _ _ _ _ _ _ _ ls R' (lv_sub hl [2, 3, 4, 5, 6] rfl) hw
set_option maxRecDepth 100000 in
set_option maxHeartbeats 4000000 in
theorem lc_11 (h : LC p l s m args c A g b N xs) (R : REL J B I Ar) (hi : vi i N) (hl : lv_has ls 8 [(0, .ref b), (1, .ref (ad6 z 0)), (2, .ref (ad8 z 0)), (3, .ref (z + 116)), (4, .int i)]) (hw : PW g (LZ [] z 117) (LM g.2 z μb f J w B I V Ar) A s H locs) (hcs : cells + 8 ≤ room_1.cells ∧ slots + 48 ≤ room_1.slots)
    (kk : ∀ (f' : Nat → Int64) (J' : Nat → Int32) (w' : Nat) (B' : Nat → Nat → Int32) (I' : Nat → Int32) (V' : Nat → Value) (A' : Nat → Nat → Int32) (H1 : Heap) (locs1 : List Loc) (ls1 : Array Slot), REL J' B' I' A' → lv_has ls1 8 [(0, .ref b), (1, .ref (ad6 z 0)), (2, .ref (ad8 z 0)), (3, .ref (z + 116)), (4, .int i)] → PW g (LZ [] z 117) (LM g.2 z μb f' J' w' B' I' V' A') A s H1 locs1 → W p l e room_1 s m args below meth c H1 locs1 (cells + 8) (slots + 48) Q (F0 m 1838 ls1 [])) : W p l e room_1 s m args below meth c H locs cells slots Q (F0 m 753 ls []) := by
  obtain ⟨hC, hl0, hX, hNC, hxs, hbl, hbA⟩ := h
  have hx := hC.1
  have hb := hC.2.1
  obtain ⟨J', w', B', I', V', A', code, v, v', res, q1, q2, q3, q4, q5, q6, R', -⟩ := lw_G' (μb := μb) (f := f) (fx := fun μ => f_X6_byteAt g.2 (ad6 z 0) (xs (i + 1).toNatClampNeg) (xs (i + 2).toNatClampNeg) μ) (fy := fun μ => f_X8_byteAt g.2 (ad8 z 0) (xs (i + 1).toNatClampNeg) (xs (i + 2).toNatClampNeg) μ) (fun μ0 μ1 => k_byteAt (lay6z z) (lay8z z) R _ _) Int32.toInt64
  refine lv_aload_n hx hb dL_law_753 rfl (lv_at hl 1 rfl) ?_
  refine lv_aload_n hx hb dL_law_754 rfl (lv_at hl 0 rfl) ?_
  refine lv_iload hx hb dL_law_755 (lv_at hl 4 rfl) ?_
  refine lv_iconst (v := 1) hx hb dL_law_757 nc_iconst_1 ?_
  refine lv_iadd hx hb dL_law_758 ?_
  refine va_sld hx hb hxs hbl hbA hw.2.2.2.1 hi.2.1 dL_law_759 ?_
  refine lv_aload_n hx hb dL_law_760 rfl (lv_at hl 0 rfl) ?_
  refine lv_iload hx hb dL_law_761 (lv_at hl 4 rfl) ?_
  refine lv_iconst (v := 2) hx hb dL_law_763 nc_iconst_2 ?_
  refine lv_iadd hx hb dL_law_764 ?_
  refine va_sld hx hb hxs hbl hbA hw.2.2.2.1 hi.2.2.1 dL_law_765 ?_
  refine lv_aload_n hx hb dL_law_766 rfl (lv_at hl 3 rfl) ?_
  refine pw_runH (As := [.ref (ad6 z 0), .int (xs (i + 1).toNatClampNeg), .int (xs (i + 2).toNatClampNeg), .ref (z + 116)]) (rest := []) hC mh_L_byteAt tw_680 (c_L_byteAt hl0 LM_x q1 q2) ⟨by decide, by decide⟩ hw hX hNC rfl hl.1 (Nat.le_of_ble_eq_true rfl) ⟨Nat.le_trans (Nat.add_le_add_left (by decide) _) hcs.1, Nat.le_trans (Nat.add_le_add_left (by decide) _) hcs.2⟩ rfl dL_law_767 (fun H locs hw => ?_)
  refine W.widen (k := cells + 8) (n := slots + 48) (Nat.add_le_add_left (by decide) _) (Nat.add_le_add_left (by decide) _) ?_
  refine lv_istore (lv' := [(5, .int (nI code)), (0, .ref b), (1, .ref (ad6 z 0)), (2, .ref (ad8 z 0)), (3, .ref (z + 116)), (4, .int i)]) hx hb dL_law_770 hl (by decide) rfl (fun ls hl => ?_)
  refine lv_aload_n hx hb dL_law_772 rfl (lv_at hl 3 rfl) ?_
  refine lv_aload_n hx hb dL_law_773 rfl (lv_at hl 1 rfl) ?_
  refine lv_iload hx hb dL_law_774 (lv_at hl 5 rfl) ?_
  refine lv_iconst (v := 1) hx hb dL_law_776 nc_iconst_1 ?_
  refine lv_iadd hx hb dL_law_777 ?_
  refine va_sld hx hb hxs hbl hbA hw.2.2.2.1 hi.2.1 dL_law_778 ?_
  refine lv_aload_n hx hb dL_law_779 rfl (lv_at hl 1 rfl) ?_
  refine lv_iload hx hb dL_law_780 (lv_at hl 5 rfl) ?_
  refine lv_iconst (v := 2) hx hb dL_law_782 nc_iconst_2 ?_
  refine lv_iadd hx hb dL_law_783 ?_
  refine va_sld hx hb hxs hbl hbA hw.2.2.2.1 hi.2.2.1 dL_law_784 ?_
  refine pw_goI hw (pw_runV (As := [.int (xs (i + 1).toNatClampNeg), .int (xs (i + 2).toNatClampNeg)]) (rest := []) hC mm_X8_byteAt tw_1378 (c_X8_byteAt q3 _) ⟨rfl, rfl, by decide, by decide⟩ hw LM_m rfl hl.1 (Nat.le_of_ble_eq_true rfl) ⟨hcs.1, hcs.2⟩ rfl dL_law_785) (fun H locs hw => ?_)
  refine lv_istore (lv' := [(6, .int v'), (5, .int (nI code)), (0, .ref b), (1, .ref (ad6 z 0)), (2, .ref (ad8 z 0)), (3, .ref (z + 116)), (4, .int i)]) hx hb dL_law_788 hl (by decide) rfl (fun ls hl => ?_)
  refine lv_aload_n hx hb dL_law_790 rfl (lv_at hl 4 rfl) ?_
  refine pw_goI hw (pw_runV (As := []) (rest := []) hC mm_X8_thrown tw_994 (c_X8_thrown LM_thrown _) ⟨rfl, rfl, by decide, by decide⟩ hw LM_m rfl hl.1 (Nat.le_of_ble_eq_true rfl) ⟨hcs.1, hcs.2⟩ rfl dL_law_791) (fun H locs hw => ?_)
  refine lv_iload hx hb dL_law_794 (lv_at hl 1 rfl) ?_
  refine lv_icmp_eq (tgt := 801) hx hb dL_law_796 (by decide) (fun c1 => ?_) (fun c1 => absurd q4 c1)
  refine lv_iload hx hb dL_law_801 (lv_at hl 1 rfl) ?_
  refine lv_if_ne (tgt := 818) hx hb dL_law_803 (by decide) (fun c2 => ?_) (fun c2 => ?_)
  · refine lv_goto (tgt := 1838) hx hb dL_law_818 (by decide) ?_
    exact kk _ _ _ _ _ _ _ _ _ ls R' (lv_sub hl [2, 3, 4, 5, 6] rfl) hw
  · have hc0 : code = 0 := nI_z (Nat.le_trans q6 (by decide)) c2
    refine lv_aload_n hx hb dL_law_806 rfl (lv_at hl 5 rfl) ?_
    refine lv_iconst (v := 0) hx hb dL_law_807 nc_iconst_0 ?_
    refine pw_lald hC hw LM_rd dL_law_808 ?_
    rw [show (if code = 0 then vp_updL f 0 (Int32.toInt64 v) else f) 0 = Int32.toInt64 v' from by rw [if_pos hc0, ← q5 hc0]; rfl]
    refine lv_iload hx hb dL_law_809 (lv_at hl 0 rfl) ?_
    refine lv_i2l hx hb dL_law_811 rfl ?_
    refine W.lcmp hx hb dL_law_812 ?_
    refine lv_if_eq (tgt := 818) hx hb dL_law_813 (by decide) (fun c3 => ?_) (fun c3 => absurd (lg_same rfl) c3)
    refine lv_goto (tgt := 1838) hx hb dL_law_818 (by decide) ?_
    exact kk _ _ _ _ _ _ _ _ _ ls R' (lv_sub hl [2, 3, 4, 5, 6] rfl) hw
set_option maxRecDepth 100000 in
set_option maxHeartbeats 4000000 in
theorem lc_12 (h : LC p l s m args c A g b N xs) (R : REL J B I Ar) (hi : vi i N) (hl : lv_has ls 8 [(0, .ref b), (1, .ref (ad6 z 0)), (2, .ref (ad8 z 0)), (3, .ref (z + 116)), (4, .int i)]) (hw : PW g (LZ [] z 117) (LM g.2 z μb f J w B I V Ar) A s H locs) (hcs : cells + 8 ≤ room_1.cells ∧ slots + 48 ≤ room_1.slots)
    (kk : ∀ (f' : Nat → Int64) (J' : Nat → Int32) (w' : Nat) (B' : Nat → Nat → Int32) (I' : Nat → Int32) (V' : Nat → Value) (A' : Nat → Nat → Int32) (H1 : Heap) (locs1 : List Loc) (ls1 : Array Slot), REL J' B' I' A' → lv_has ls1 8 [(0, .ref b), (1, .ref (ad6 z 0)), (2, .ref (ad8 z 0)), (3, .ref (z + 116)), (4, .int i)] → PW g (LZ [] z 117) (LM g.2 z μb f' J' w' B' I' V' A') A s H1 locs1 → W p l e room_1 s m args below meth c H1 locs1 (cells + 8) (slots + 48) Q (F0 m 1838 ls1 [])) : W p l e room_1 s m args below meth c H locs cells slots Q (F0 m 821 ls []) := by
  obtain ⟨hC, hl0, hX, hNC, hxs, hbl, hbA⟩ := h
  have hx := hC.1
  have hb := hC.2.1
  obtain ⟨J', w', B', I', V', A', code, v, v', res, q1, q2, q3, q4, q5, q6, R', -⟩ := lw_G' (μb := μb) (f := f) (fx := fun μ => f_X6_number g.2 (ad6 z 0) (xs (i + 1).toNatClampNeg) μ) (fy := fun μ => f_X8_number g.2 (ad8 z 0) (xs (i + 1).toNatClampNeg) μ) (fun μ0 μ1 => k_number (lay6z z) (lay8z z) R _) (fun r => r)
  refine lv_aload_n hx hb dL_law_821 rfl (lv_at hl 1 rfl) ?_
  refine lv_aload_n hx hb dL_law_822 rfl (lv_at hl 0 rfl) ?_
  refine lv_iload hx hb dL_law_823 (lv_at hl 4 rfl) ?_
  refine lv_iconst (v := 1) hx hb dL_law_825 nc_iconst_1 ?_
  refine lv_iadd hx hb dL_law_826 ?_
  refine va_sld hx hb hxs hbl hbA hw.2.2.2.1 hi.2.1 dL_law_827 ?_
  refine lv_aload_n hx hb dL_law_828 rfl (lv_at hl 3 rfl) ?_
  refine pw_runH (As := [.ref (ad6 z 0), .int (xs (i + 1).toNatClampNeg), .ref (z + 116)]) (rest := []) hC mh_L_number tw_687 (c_L_number hl0 LM_x q1 q2) ⟨by decide, by decide⟩ hw hX hNC rfl hl.1 (Nat.le_of_ble_eq_true rfl) ⟨Nat.le_trans (Nat.add_le_add_left (by decide) _) hcs.1, Nat.le_trans (Nat.add_le_add_left (by decide) _) hcs.2⟩ rfl dL_law_829 (fun H locs hw => ?_)
  refine W.widen (k := cells + 8) (n := slots + 48) (Nat.add_le_add_left (by decide) _) (Nat.add_le_add_left (by decide) _) ?_
  refine lv_istore (lv' := [(5, .int (nI code)), (0, .ref b), (1, .ref (ad6 z 0)), (2, .ref (ad8 z 0)), (3, .ref (z + 116)), (4, .int i)]) hx hb dL_law_832 hl (by decide) rfl (fun ls hl => ?_)
  refine lv_aload_n hx hb dL_law_834 rfl (lv_at hl 3 rfl) ?_
  refine lv_aload_n hx hb dL_law_835 rfl (lv_at hl 1 rfl) ?_
  refine lv_iload hx hb dL_law_836 (lv_at hl 5 rfl) ?_
  refine lv_iconst (v := 1) hx hb dL_law_838 nc_iconst_1 ?_
  refine lv_iadd hx hb dL_law_839 ?_
  refine va_sld hx hb hxs hbl hbA hw.2.2.2.1 hi.2.1 dL_law_840 ?_
  refine pw_goL hw (pw_runV (As := [.int (xs (i + 1).toNatClampNeg)]) (rest := []) hC mm_X8_number tw_1382 (c_X8_number q3 _) ⟨rfl, rfl, by decide, by decide⟩ hw LM_m rfl hl.1 (Nat.le_of_ble_eq_true rfl) ⟨hcs.1, hcs.2⟩ rfl dL_law_841) (fun H locs hw => ?_)
  refine lv_lstore (lv' := [(6, .long v'), (5, .int (nI code)), (0, .ref b), (1, .ref (ad6 z 0)), (2, .ref (ad8 z 0)), (3, .ref (z + 116)), (4, .int i)]) hx hb dL_law_844 hl (by decide) rfl (fun ls hl => ?_)
  refine lv_aload_n hx hb dL_law_846 rfl (lv_at hl 4 rfl) ?_
  refine pw_goI hw (pw_runV (As := []) (rest := []) hC mm_X8_thrown tw_994 (c_X8_thrown LM_thrown _) ⟨rfl, rfl, by decide, by decide⟩ hw LM_m rfl hl.1 (Nat.le_of_ble_eq_true rfl) ⟨hcs.1, hcs.2⟩ rfl dL_law_847) (fun H locs hw => ?_)
  refine lv_iload hx hb dL_law_850 (lv_at hl 1 rfl) ?_
  refine lv_icmp_eq (tgt := 857) hx hb dL_law_852 (by decide) (fun c1 => ?_) (fun c1 => absurd q4 c1)
  refine lv_iload hx hb dL_law_857 (lv_at hl 1 rfl) ?_
  refine lv_if_ne (tgt := 873) hx hb dL_law_859 (by decide) (fun c2 => ?_) (fun c2 => ?_)
  · refine lv_goto (tgt := 1838) hx hb dL_law_873 (by decide) ?_
    exact kk _ _ _ _ _ _ _ _ _ ls R' (lv_sub hl [2, 3, 4, 5, 6] rfl) hw
  · have hc0 : code = 0 := nI_z (Nat.le_trans q6 (by decide)) c2
    refine lv_aload_n hx hb dL_law_862 rfl (lv_at hl 5 rfl) ?_
    refine lv_iconst (v := 0) hx hb dL_law_863 nc_iconst_0 ?_
    refine pw_lald hC hw LM_rd dL_law_864 ?_
    rw [show (if code = 0 then vp_updL f 0 ((fun r => r) v) else f) 0 = (fun r => r) v' from by rw [if_pos hc0, ← q5 hc0]; rfl]
    refine lv_lload hx hb dL_law_865 (lv_at hl 0 rfl) ?_
    refine W.lcmp hx hb dL_law_867 ?_
    refine lv_if_eq (tgt := 873) hx hb dL_law_868 (by decide) (fun c3 => ?_) (fun c3 => absurd (lg_same rfl) c3)
    refine lv_goto (tgt := 1838) hx hb dL_law_873 (by decide) ?_
    exact kk _ _ _ _ _ _ _ _ _ ls R' (lv_sub hl [2, 3, 4, 5, 6] rfl) hw
set_option maxRecDepth 100000 in
set_option maxHeartbeats 4000000 in
theorem lc_13 (h : LC p l s m args c A g b N xs) (R : REL J B I Ar) (hi : vi i N) (hl : lv_has ls 8 [(0, .ref b), (1, .ref (ad6 z 0)), (2, .ref (ad8 z 0)), (3, .ref (z + 116)), (4, .int i)]) (hw : PW g (LZ [] z 117) (LM g.2 z μb f J w B I V Ar) A s H locs) (hcs : cells + 8 ≤ room_1.cells ∧ slots + 48 ≤ room_1.slots)
    (kk : ∀ (f' : Nat → Int64) (J' : Nat → Int32) (w' : Nat) (B' : Nat → Nat → Int32) (I' : Nat → Int32) (V' : Nat → Value) (A' : Nat → Nat → Int32) (H1 : Heap) (locs1 : List Loc) (ls1 : Array Slot), REL J' B' I' A' → lv_has ls1 8 [(0, .ref b), (1, .ref (ad6 z 0)), (2, .ref (ad8 z 0)), (3, .ref (z + 116)), (4, .int i)] → PW g (LZ [] z 117) (LM g.2 z μb f' J' w' B' I' V' A') A s H1 locs1 → W p l e room_1 s m args below meth c H1 locs1 (cells + 8) (slots + 48) Q (F0 m 1838 ls1 [])) : W p l e room_1 s m args below meth c H locs cells slots Q (F0 m 876 ls []) := by
  obtain ⟨hC, hl0, hX, hNC, hxs, hbl, hbA⟩ := h
  have hx := hC.1
  have hb := hC.2.1
  obtain ⟨J', w', B', I', V', A', code, v, v', res, q1, q2, q3, q4, q5, q6, R', -⟩ := lw_G' (μb := μb) (f := f) (fx := fun μ => f_X6_total g.2 (ad6 z 0) (xs (i + 1).toNatClampNeg) (xs (i + 2).toNatClampNeg) μ) (fy := fun μ => f_X8_total g.2 (ad8 z 0) (xs (i + 1).toNatClampNeg) (xs (i + 2).toNatClampNeg) μ) (fun μ0 μ1 => k_total (lay6z z) (lay8z z) R _ _) Int32.toInt64
  refine lv_aload_n hx hb dL_law_876 rfl (lv_at hl 1 rfl) ?_
  refine lv_aload_n hx hb dL_law_877 rfl (lv_at hl 0 rfl) ?_
  refine lv_iload hx hb dL_law_878 (lv_at hl 4 rfl) ?_
  refine lv_iconst (v := 1) hx hb dL_law_880 nc_iconst_1 ?_
  refine lv_iadd hx hb dL_law_881 ?_
  refine va_sld hx hb hxs hbl hbA hw.2.2.2.1 hi.2.1 dL_law_882 ?_
  refine lv_aload_n hx hb dL_law_883 rfl (lv_at hl 0 rfl) ?_
  refine lv_iload hx hb dL_law_884 (lv_at hl 4 rfl) ?_
  refine lv_iconst (v := 2) hx hb dL_law_886 nc_iconst_2 ?_
  refine lv_iadd hx hb dL_law_887 ?_
  refine va_sld hx hb hxs hbl hbA hw.2.2.2.1 hi.2.2.1 dL_law_888 ?_
  refine lv_aload_n hx hb dL_law_889 rfl (lv_at hl 3 rfl) ?_
  refine pw_runH (As := [.ref (ad6 z 0), .int (xs (i + 1).toNatClampNeg), .int (xs (i + 2).toNatClampNeg), .ref (z + 116)]) (rest := []) hC mh_L_total tw_753 (c_L_total hl0 LM_x q1 q2) ⟨by decide, by decide⟩ hw hX hNC rfl hl.1 (Nat.le_of_ble_eq_true rfl) ⟨Nat.le_trans (Nat.add_le_add_left (by decide) _) hcs.1, Nat.le_trans (Nat.add_le_add_left (by decide) _) hcs.2⟩ rfl dL_law_890 (fun H locs hw => ?_)
  refine W.widen (k := cells + 8) (n := slots + 48) (Nat.add_le_add_left (by decide) _) (Nat.add_le_add_left (by decide) _) ?_
  refine lv_istore (lv' := [(5, .int (nI code)), (0, .ref b), (1, .ref (ad6 z 0)), (2, .ref (ad8 z 0)), (3, .ref (z + 116)), (4, .int i)]) hx hb dL_law_893 hl (by decide) rfl (fun ls hl => ?_)
  refine lv_aload_n hx hb dL_law_895 rfl (lv_at hl 3 rfl) ?_
  refine lv_aload_n hx hb dL_law_896 rfl (lv_at hl 1 rfl) ?_
  refine lv_iload hx hb dL_law_897 (lv_at hl 5 rfl) ?_
  refine lv_iconst (v := 1) hx hb dL_law_899 nc_iconst_1 ?_
  refine lv_iadd hx hb dL_law_900 ?_
  refine va_sld hx hb hxs hbl hbA hw.2.2.2.1 hi.2.1 dL_law_901 ?_
  refine lv_aload_n hx hb dL_law_902 rfl (lv_at hl 1 rfl) ?_
  refine lv_iload hx hb dL_law_903 (lv_at hl 5 rfl) ?_
  refine lv_iconst (v := 2) hx hb dL_law_905 nc_iconst_2 ?_
  refine lv_iadd hx hb dL_law_906 ?_
  refine va_sld hx hb hxs hbl hbA hw.2.2.2.1 hi.2.2.1 dL_law_907 ?_
  refine pw_goI hw (pw_runV (As := [.int (xs (i + 1).toNatClampNeg), .int (xs (i + 2).toNatClampNeg)]) (rest := []) hC mm_X8_total tw_1390 (c_X8_total q3 _) ⟨rfl, rfl, by decide, by decide⟩ hw LM_m rfl hl.1 (Nat.le_of_ble_eq_true rfl) ⟨hcs.1, hcs.2⟩ rfl dL_law_908) (fun H locs hw => ?_)
  refine lv_istore (lv' := [(6, .int v'), (5, .int (nI code)), (0, .ref b), (1, .ref (ad6 z 0)), (2, .ref (ad8 z 0)), (3, .ref (z + 116)), (4, .int i)]) hx hb dL_law_911 hl (by decide) rfl (fun ls hl => ?_)
  refine lv_aload_n hx hb dL_law_913 rfl (lv_at hl 4 rfl) ?_
  refine pw_goI hw (pw_runV (As := []) (rest := []) hC mm_X8_thrown tw_994 (c_X8_thrown LM_thrown _) ⟨rfl, rfl, by decide, by decide⟩ hw LM_m rfl hl.1 (Nat.le_of_ble_eq_true rfl) ⟨hcs.1, hcs.2⟩ rfl dL_law_914) (fun H locs hw => ?_)
  refine lv_iload hx hb dL_law_917 (lv_at hl 1 rfl) ?_
  refine lv_icmp_eq (tgt := 924) hx hb dL_law_919 (by decide) (fun c1 => ?_) (fun c1 => absurd q4 c1)
  refine lv_iload hx hb dL_law_924 (lv_at hl 1 rfl) ?_
  refine lv_if_ne (tgt := 941) hx hb dL_law_926 (by decide) (fun c2 => ?_) (fun c2 => ?_)
  · refine lv_goto (tgt := 1838) hx hb dL_law_941 (by decide) ?_
    exact kk _ _ _ _ _ _ _ _ _ ls R' (lv_sub hl [2, 3, 4, 5, 6] rfl) hw
  · have hc0 : code = 0 := nI_z (Nat.le_trans q6 (by decide)) c2
    refine lv_aload_n hx hb dL_law_929 rfl (lv_at hl 5 rfl) ?_
    refine lv_iconst (v := 0) hx hb dL_law_930 nc_iconst_0 ?_
    refine pw_lald hC hw LM_rd dL_law_931 ?_
    rw [show (if code = 0 then vp_updL f 0 (Int32.toInt64 v) else f) 0 = Int32.toInt64 v' from by rw [if_pos hc0, ← q5 hc0]; rfl]
    refine lv_iload hx hb dL_law_932 (lv_at hl 0 rfl) ?_
    refine lv_i2l hx hb dL_law_934 rfl ?_
    refine W.lcmp hx hb dL_law_935 ?_
    refine lv_if_eq (tgt := 941) hx hb dL_law_936 (by decide) (fun c3 => ?_) (fun c3 => absurd (lg_same rfl) c3)
    refine lv_goto (tgt := 1838) hx hb dL_law_941 (by decide) ?_
    exact kk _ _ _ _ _ _ _ _ _ ls R' (lv_sub hl [2, 3, 4, 5, 6] rfl) hw
set_option maxRecDepth 100000 in
set_option maxHeartbeats 4000000 in
theorem lc_14 (h : LC p l s m args c A g b N xs) (R : REL J B I Ar) (hi : vi i N) (hl : lv_has ls 8 [(0, .ref b), (1, .ref (ad6 z 0)), (2, .ref (ad8 z 0)), (3, .ref (z + 116)), (4, .int i)]) (hw : PW g (LZ [] z 117) (LM g.2 z μb f J w B I V Ar) A s H locs) (hcs : cells + 8 ≤ room_1.cells ∧ slots + 48 ≤ room_1.slots)
    (kk : ∀ (f' : Nat → Int64) (J' : Nat → Int32) (w' : Nat) (B' : Nat → Nat → Int32) (I' : Nat → Int32) (V' : Nat → Value) (A' : Nat → Nat → Int32) (H1 : Heap) (locs1 : List Loc) (ls1 : Array Slot), REL J' B' I' A' → lv_has ls1 8 [(0, .ref b), (1, .ref (ad6 z 0)), (2, .ref (ad8 z 0)), (3, .ref (z + 116)), (4, .int i)] → PW g (LZ [] z 117) (LM g.2 z μb f' J' w' B' I' V' A') A s H1 locs1 → W p l e room_1 s m args below meth c H1 locs1 (cells + 8) (slots + 48) Q (F0 m 1838 ls1 [])) : W p l e room_1 s m args below meth c H locs cells slots Q (F0 m 944 ls []) := by
  obtain ⟨hC, hl0, hX, hNC, hxs, hbl, hbA⟩ := h
  have hx := hC.1
  have hb := hC.2.1
  obtain ⟨J', w', B', I', V', A', code, v, v', res, q1, q2, q3, q4, q5, q6, R', -⟩ := lw_G' (μb := μb) (f := f) (fx := fun μ => f_X6_kinds g.2 (ad6 z 0) (xs (i + 1).toNatClampNeg) (xs (i + 2).toNatClampNeg) μ) (fy := fun μ => f_X8_kinds g.2 (ad8 z 0) (xs (i + 1).toNatClampNeg) (xs (i + 2).toNatClampNeg) μ) (fun μ0 μ1 => k_kinds (lay6z z) (lay8z z) R _ _) Int32.toInt64
  refine lv_aload_n hx hb dL_law_944 rfl (lv_at hl 1 rfl) ?_
  refine lv_aload_n hx hb dL_law_945 rfl (lv_at hl 0 rfl) ?_
  refine lv_iload hx hb dL_law_946 (lv_at hl 4 rfl) ?_
  refine lv_iconst (v := 1) hx hb dL_law_948 nc_iconst_1 ?_
  refine lv_iadd hx hb dL_law_949 ?_
  refine va_sld hx hb hxs hbl hbA hw.2.2.2.1 hi.2.1 dL_law_950 ?_
  refine lv_aload_n hx hb dL_law_951 rfl (lv_at hl 0 rfl) ?_
  refine lv_iload hx hb dL_law_952 (lv_at hl 4 rfl) ?_
  refine lv_iconst (v := 2) hx hb dL_law_954 nc_iconst_2 ?_
  refine lv_iadd hx hb dL_law_955 ?_
  refine va_sld hx hb hxs hbl hbA hw.2.2.2.1 hi.2.2.1 dL_law_956 ?_
  refine lv_aload_n hx hb dL_law_957 rfl (lv_at hl 3 rfl) ?_
  refine pw_runH (As := [.ref (ad6 z 0), .int (xs (i + 1).toNatClampNeg), .int (xs (i + 2).toNatClampNeg), .ref (z + 116)]) (rest := []) hC mh_L_kinds tw_764 (c_L_kinds hl0 LM_x q1 q2) ⟨by decide, by decide⟩ hw hX hNC rfl hl.1 (Nat.le_of_ble_eq_true rfl) ⟨Nat.le_trans (Nat.add_le_add_left (by decide) _) hcs.1, Nat.le_trans (Nat.add_le_add_left (by decide) _) hcs.2⟩ rfl dL_law_958 (fun H locs hw => ?_)
  refine W.widen (k := cells + 8) (n := slots + 48) (Nat.add_le_add_left (by decide) _) (Nat.add_le_add_left (by decide) _) ?_
  refine lv_istore (lv' := [(5, .int (nI code)), (0, .ref b), (1, .ref (ad6 z 0)), (2, .ref (ad8 z 0)), (3, .ref (z + 116)), (4, .int i)]) hx hb dL_law_961 hl (by decide) rfl (fun ls hl => ?_)
  refine lv_aload_n hx hb dL_law_963 rfl (lv_at hl 3 rfl) ?_
  refine lv_aload_n hx hb dL_law_964 rfl (lv_at hl 1 rfl) ?_
  refine lv_iload hx hb dL_law_965 (lv_at hl 5 rfl) ?_
  refine lv_iconst (v := 1) hx hb dL_law_967 nc_iconst_1 ?_
  refine lv_iadd hx hb dL_law_968 ?_
  refine va_sld hx hb hxs hbl hbA hw.2.2.2.1 hi.2.1 dL_law_969 ?_
  refine lv_aload_n hx hb dL_law_970 rfl (lv_at hl 1 rfl) ?_
  refine lv_iload hx hb dL_law_971 (lv_at hl 5 rfl) ?_
  refine lv_iconst (v := 2) hx hb dL_law_973 nc_iconst_2 ?_
  refine lv_iadd hx hb dL_law_974 ?_
  refine va_sld hx hb hxs hbl hbA hw.2.2.2.1 hi.2.2.1 dL_law_975 ?_
  refine pw_goI hw (pw_runV (As := [.int (xs (i + 1).toNatClampNeg), .int (xs (i + 2).toNatClampNeg)]) (rest := []) hC mm_X8_kinds tw_1402 (c_X8_kinds q3 _) ⟨rfl, rfl, by decide, by decide⟩ hw LM_m rfl hl.1 (Nat.le_of_ble_eq_true rfl) ⟨hcs.1, hcs.2⟩ rfl dL_law_976) (fun H locs hw => ?_)
  refine lv_istore (lv' := [(6, .int v'), (5, .int (nI code)), (0, .ref b), (1, .ref (ad6 z 0)), (2, .ref (ad8 z 0)), (3, .ref (z + 116)), (4, .int i)]) hx hb dL_law_979 hl (by decide) rfl (fun ls hl => ?_)
  refine lv_aload_n hx hb dL_law_981 rfl (lv_at hl 4 rfl) ?_
  refine pw_goI hw (pw_runV (As := []) (rest := []) hC mm_X8_thrown tw_994 (c_X8_thrown LM_thrown _) ⟨rfl, rfl, by decide, by decide⟩ hw LM_m rfl hl.1 (Nat.le_of_ble_eq_true rfl) ⟨hcs.1, hcs.2⟩ rfl dL_law_982) (fun H locs hw => ?_)
  refine lv_iload hx hb dL_law_985 (lv_at hl 1 rfl) ?_
  refine lv_icmp_eq (tgt := 992) hx hb dL_law_987 (by decide) (fun c1 => ?_) (fun c1 => absurd q4 c1)
  refine lv_iload hx hb dL_law_992 (lv_at hl 1 rfl) ?_
  refine lv_if_ne (tgt := 1009) hx hb dL_law_994 (by decide) (fun c2 => ?_) (fun c2 => ?_)
  · refine lv_goto (tgt := 1838) hx hb dL_law_1009 (by decide) ?_
    exact kk _ _ _ _ _ _ _ _ _ ls R' (lv_sub hl [2, 3, 4, 5, 6] rfl) hw
  · have hc0 : code = 0 := nI_z (Nat.le_trans q6 (by decide)) c2
    refine lv_aload_n hx hb dL_law_997 rfl (lv_at hl 5 rfl) ?_
    refine lv_iconst (v := 0) hx hb dL_law_998 nc_iconst_0 ?_
    refine pw_lald hC hw LM_rd dL_law_999 ?_
    rw [show (if code = 0 then vp_updL f 0 (Int32.toInt64 v) else f) 0 = Int32.toInt64 v' from by rw [if_pos hc0, ← q5 hc0]; rfl]
    refine lv_iload hx hb dL_law_1000 (lv_at hl 0 rfl) ?_
    refine lv_i2l hx hb dL_law_1002 rfl ?_
    refine W.lcmp hx hb dL_law_1003 ?_
    refine lv_if_eq (tgt := 1009) hx hb dL_law_1004 (by decide) (fun c3 => ?_) (fun c3 => absurd (lg_same rfl) c3)
    refine lv_goto (tgt := 1838) hx hb dL_law_1009 (by decide) ?_
    exact kk _ _ _ _ _ _ _ _ _ ls R' (lv_sub hl [2, 3, 4, 5, 6] rfl) hw
set_option maxRecDepth 100000 in
set_option maxHeartbeats 4000000 in
theorem lc_15 (h : LC p l s m args c A g b N xs) (R : REL J B I Ar) (hi : vi i N) (hl : lv_has ls 8 [(0, .ref b), (1, .ref (ad6 z 0)), (2, .ref (ad8 z 0)), (3, .ref (z + 116)), (4, .int i)]) (hw : PW g (LZ [] z 117) (LM g.2 z μb f J w B I V Ar) A s H locs) (hcs : cells + 8 ≤ room_1.cells ∧ slots + 48 ≤ room_1.slots)
    (kk : ∀ (f' : Nat → Int64) (J' : Nat → Int32) (w' : Nat) (B' : Nat → Nat → Int32) (I' : Nat → Int32) (V' : Nat → Value) (A' : Nat → Nat → Int32) (H1 : Heap) (locs1 : List Loc) (ls1 : Array Slot), REL J' B' I' A' → lv_has ls1 8 [(0, .ref b), (1, .ref (ad6 z 0)), (2, .ref (ad8 z 0)), (3, .ref (z + 116)), (4, .int i)] → PW g (LZ [] z 117) (LM g.2 z μb f' J' w' B' I' V' A') A s H1 locs1 → W p l e room_1 s m args below meth c H1 locs1 (cells + 8) (slots + 48) Q (F0 m 1838 ls1 [])) : W p l e room_1 s m args below meth c H locs cells slots Q (F0 m 1012 ls []) := by
  obtain ⟨hC, hl0, hX, hNC, hxs, hbl, hbA⟩ := h
  have hx := hC.1
  have hb := hC.2.1
  obtain ⟨J', w', B', I', V', A', code, v, v', res, q1, q2, q3, q4, q5, q6, R', -⟩ := lw_G' (μb := μb) (f := f) (fx := fun μ => f_X6_value g.2 (ad6 z 0) (xs (i + 1).toNatClampNeg) (xs (i + 2).toNatClampNeg) μ) (fy := fun μ => f_X8_value_ g.2 (ad8 z 0) (xs (i + 1).toNatClampNeg) (xs (i + 2).toNatClampNeg) μ) (fun μ0 μ1 => k_value (lay6z z) (lay8z z) R _ _) Int32.toInt64
  refine lv_aload_n hx hb dL_law_1012 rfl (lv_at hl 1 rfl) ?_
  refine lv_aload_n hx hb dL_law_1013 rfl (lv_at hl 0 rfl) ?_
  refine lv_iload hx hb dL_law_1014 (lv_at hl 4 rfl) ?_
  refine lv_iconst (v := 1) hx hb dL_law_1016 nc_iconst_1 ?_
  refine lv_iadd hx hb dL_law_1017 ?_
  refine va_sld hx hb hxs hbl hbA hw.2.2.2.1 hi.2.1 dL_law_1018 ?_
  refine lv_aload_n hx hb dL_law_1019 rfl (lv_at hl 0 rfl) ?_
  refine lv_iload hx hb dL_law_1020 (lv_at hl 4 rfl) ?_
  refine lv_iconst (v := 2) hx hb dL_law_1022 nc_iconst_2 ?_
  refine lv_iadd hx hb dL_law_1023 ?_
  refine va_sld hx hb hxs hbl hbA hw.2.2.2.1 hi.2.2.1 dL_law_1024 ?_
  refine lv_aload_n hx hb dL_law_1025 rfl (lv_at hl 3 rfl) ?_
  refine pw_runH (As := [.ref (ad6 z 0), .int (xs (i + 1).toNatClampNeg), .int (xs (i + 2).toNatClampNeg), .ref (z + 116)]) (rest := []) hC mh_L_value tw_771 (c_L_value hl0 LM_x q1 q2) ⟨by decide, by decide⟩ hw hX hNC rfl hl.1 (Nat.le_of_ble_eq_true rfl) ⟨Nat.le_trans (Nat.add_le_add_left (by decide) _) hcs.1, Nat.le_trans (Nat.add_le_add_left (by decide) _) hcs.2⟩ rfl dL_law_1026 (fun H locs hw => ?_)
  refine W.widen (k := cells + 8) (n := slots + 48) (Nat.add_le_add_left (by decide) _) (Nat.add_le_add_left (by decide) _) ?_
  refine lv_istore (lv' := [(5, .int (nI code)), (0, .ref b), (1, .ref (ad6 z 0)), (2, .ref (ad8 z 0)), (3, .ref (z + 116)), (4, .int i)]) hx hb dL_law_1029 hl (by decide) rfl (fun ls hl => ?_)
  refine lv_aload_n hx hb dL_law_1031 rfl (lv_at hl 3 rfl) ?_
  refine lv_aload_n hx hb dL_law_1032 rfl (lv_at hl 1 rfl) ?_
  refine lv_iload hx hb dL_law_1033 (lv_at hl 5 rfl) ?_
  refine lv_iconst (v := 1) hx hb dL_law_1035 nc_iconst_1 ?_
  refine lv_iadd hx hb dL_law_1036 ?_
  refine va_sld hx hb hxs hbl hbA hw.2.2.2.1 hi.2.1 dL_law_1037 ?_
  refine lv_aload_n hx hb dL_law_1038 rfl (lv_at hl 1 rfl) ?_
  refine lv_iload hx hb dL_law_1039 (lv_at hl 5 rfl) ?_
  refine lv_iconst (v := 2) hx hb dL_law_1041 nc_iconst_2 ?_
  refine lv_iadd hx hb dL_law_1042 ?_
  refine va_sld hx hb hxs hbl hbA hw.2.2.2.1 hi.2.2.1 dL_law_1043 ?_
  refine pw_goI hw (pw_runV (As := [.int (xs (i + 1).toNatClampNeg), .int (xs (i + 2).toNatClampNeg)]) (rest := []) hC mm_X8_value_ tw_1410 (c_X8_value_ q3 _) ⟨rfl, rfl, by decide, by decide⟩ hw LM_m rfl hl.1 (Nat.le_of_ble_eq_true rfl) ⟨hcs.1, hcs.2⟩ rfl dL_law_1044) (fun H locs hw => ?_)
  refine lv_istore (lv' := [(6, .int v'), (5, .int (nI code)), (0, .ref b), (1, .ref (ad6 z 0)), (2, .ref (ad8 z 0)), (3, .ref (z + 116)), (4, .int i)]) hx hb dL_law_1047 hl (by decide) rfl (fun ls hl => ?_)
  refine lv_aload_n hx hb dL_law_1049 rfl (lv_at hl 4 rfl) ?_
  refine pw_goI hw (pw_runV (As := []) (rest := []) hC mm_X8_thrown tw_994 (c_X8_thrown LM_thrown _) ⟨rfl, rfl, by decide, by decide⟩ hw LM_m rfl hl.1 (Nat.le_of_ble_eq_true rfl) ⟨hcs.1, hcs.2⟩ rfl dL_law_1050) (fun H locs hw => ?_)
  refine lv_iload hx hb dL_law_1053 (lv_at hl 1 rfl) ?_
  refine lv_icmp_eq (tgt := 1060) hx hb dL_law_1055 (by decide) (fun c1 => ?_) (fun c1 => absurd q4 c1)
  refine lv_iload hx hb dL_law_1060 (lv_at hl 1 rfl) ?_
  refine lv_if_ne (tgt := 1077) hx hb dL_law_1062 (by decide) (fun c2 => ?_) (fun c2 => ?_)
  · refine lv_goto (tgt := 1838) hx hb dL_law_1077 (by decide) ?_
    exact kk _ _ _ _ _ _ _ _ _ ls R' (lv_sub hl [2, 3, 4, 5, 6] rfl) hw
  · have hc0 : code = 0 := nI_z (Nat.le_trans q6 (by decide)) c2
    refine lv_aload_n hx hb dL_law_1065 rfl (lv_at hl 5 rfl) ?_
    refine lv_iconst (v := 0) hx hb dL_law_1066 nc_iconst_0 ?_
    refine pw_lald hC hw LM_rd dL_law_1067 ?_
    rw [show (if code = 0 then vp_updL f 0 (Int32.toInt64 v) else f) 0 = Int32.toInt64 v' from by rw [if_pos hc0, ← q5 hc0]; rfl]
    refine lv_iload hx hb dL_law_1068 (lv_at hl 0 rfl) ?_
    refine lv_i2l hx hb dL_law_1070 rfl ?_
    refine W.lcmp hx hb dL_law_1071 ?_
    refine lv_if_eq (tgt := 1077) hx hb dL_law_1072 (by decide) (fun c3 => ?_) (fun c3 => absurd (lg_same rfl) c3)
    refine lv_goto (tgt := 1838) hx hb dL_law_1077 (by decide) ?_
    exact kk _ _ _ _ _ _ _ _ _ ls R' (lv_sub hl [2, 3, 4, 5, 6] rfl) hw
set_option maxRecDepth 100000 in
set_option maxHeartbeats 4000000 in
theorem lc_16 (h : LC p l s m args c A g b N xs) (R : REL J B I Ar) (hi : vi i N) (hl : lv_has ls 8 [(0, .ref b), (1, .ref (ad6 z 0)), (2, .ref (ad8 z 0)), (3, .ref (z + 116)), (4, .int i)]) (hw : PW g (LZ [] z 117) (LM g.2 z μb f J w B I V Ar) A s H locs) (hcs : cells + 8 ≤ room_1.cells ∧ slots + 48 ≤ room_1.slots)
    (kk : ∀ (f' : Nat → Int64) (J' : Nat → Int32) (w' : Nat) (B' : Nat → Nat → Int32) (I' : Nat → Int32) (V' : Nat → Value) (A' : Nat → Nat → Int32) (H1 : Heap) (locs1 : List Loc) (ls1 : Array Slot), REL J' B' I' A' → lv_has ls1 8 [(0, .ref b), (1, .ref (ad6 z 0)), (2, .ref (ad8 z 0)), (3, .ref (z + 116)), (4, .int i)] → PW g (LZ [] z 117) (LM g.2 z μb f' J' w' B' I' V' A') A s H1 locs1 → W p l e room_1 s m args below meth c H1 locs1 (cells + 8) (slots + 48) Q (F0 m 1838 ls1 [])) : W p l e room_1 s m args below meth c H locs cells slots Q (F0 m 1080 ls []) := by
  obtain ⟨hC, hl0, hX, hNC, hxs, hbl, hbA⟩ := h
  have hx := hC.1
  have hb := hC.2.1
  obtain ⟨J', w', B', I', V', A', code, v, v', res, q1, q2, q3, q4, q5, q6, R', -⟩ := lw_G' (μb := μb) (f := f) (fx := fun μ => f_X6_put g.2 (ad6 z 0) (xs (i + 1).toNatClampNeg) (xs (i + 2).toNatClampNeg) (xs (i + 3).toNatClampNeg) μ) (fy := fun μ => f_X8_put g.2 (ad8 z 0) (xs (i + 1).toNatClampNeg) (xs (i + 2).toNatClampNeg) (xs (i + 3).toNatClampNeg) μ) (fun μ0 μ1 => k_put (lay6z z) (lay8z z) R _ _ _) Int32.toInt64
  refine lv_aload_n hx hb dL_law_1080 rfl (lv_at hl 1 rfl) ?_
  refine lv_aload_n hx hb dL_law_1081 rfl (lv_at hl 0 rfl) ?_
  refine lv_iload hx hb dL_law_1082 (lv_at hl 4 rfl) ?_
  refine lv_iconst (v := 1) hx hb dL_law_1084 nc_iconst_1 ?_
  refine lv_iadd hx hb dL_law_1085 ?_
  refine va_sld hx hb hxs hbl hbA hw.2.2.2.1 hi.2.1 dL_law_1086 ?_
  refine lv_aload_n hx hb dL_law_1087 rfl (lv_at hl 0 rfl) ?_
  refine lv_iload hx hb dL_law_1088 (lv_at hl 4 rfl) ?_
  refine lv_iconst (v := 2) hx hb dL_law_1090 nc_iconst_2 ?_
  refine lv_iadd hx hb dL_law_1091 ?_
  refine va_sld hx hb hxs hbl hbA hw.2.2.2.1 hi.2.2.1 dL_law_1092 ?_
  refine lv_aload_n hx hb dL_law_1093 rfl (lv_at hl 0 rfl) ?_
  refine lv_iload hx hb dL_law_1094 (lv_at hl 4 rfl) ?_
  refine lv_iconst (v := 3) hx hb dL_law_1096 nc_iconst_3 ?_
  refine lv_iadd hx hb dL_law_1097 ?_
  refine va_sld hx hb hxs hbl hbA hw.2.2.2.1 hi.2.2.2.1 dL_law_1098 ?_
  refine lv_aload_n hx hb dL_law_1099 rfl (lv_at hl 3 rfl) ?_
  refine pw_runH (As := [.ref (ad6 z 0), .int (xs (i + 1).toNatClampNeg), .int (xs (i + 2).toNatClampNeg), .int (xs (i + 3).toNatClampNeg), .ref (z + 116)]) (rest := []) hC mh_L_put tw_856 (c_L_put hl0 LM_x q1 q2) ⟨by decide, by decide⟩ hw hX hNC rfl hl.1 (Nat.le_of_ble_eq_true rfl) ⟨Nat.le_trans (Nat.add_le_add_left (by decide) _) hcs.1, Nat.le_trans (Nat.add_le_add_left (by decide) _) hcs.2⟩ rfl dL_law_1100 (fun H locs hw => ?_)
  refine W.widen (k := cells + 8) (n := slots + 48) (Nat.add_le_add_left (by decide) _) (Nat.add_le_add_left (by decide) _) ?_
  refine lv_istore (lv' := [(5, .int (nI code)), (0, .ref b), (1, .ref (ad6 z 0)), (2, .ref (ad8 z 0)), (3, .ref (z + 116)), (4, .int i)]) hx hb dL_law_1103 hl (by decide) rfl (fun ls hl => ?_)
  refine lv_aload_n hx hb dL_law_1105 rfl (lv_at hl 3 rfl) ?_
  refine lv_aload_n hx hb dL_law_1106 rfl (lv_at hl 1 rfl) ?_
  refine lv_iload hx hb dL_law_1107 (lv_at hl 5 rfl) ?_
  refine lv_iconst (v := 1) hx hb dL_law_1109 nc_iconst_1 ?_
  refine lv_iadd hx hb dL_law_1110 ?_
  refine va_sld hx hb hxs hbl hbA hw.2.2.2.1 hi.2.1 dL_law_1111 ?_
  refine lv_aload_n hx hb dL_law_1112 rfl (lv_at hl 1 rfl) ?_
  refine lv_iload hx hb dL_law_1113 (lv_at hl 5 rfl) ?_
  refine lv_iconst (v := 2) hx hb dL_law_1115 nc_iconst_2 ?_
  refine lv_iadd hx hb dL_law_1116 ?_
  refine va_sld hx hb hxs hbl hbA hw.2.2.2.1 hi.2.2.1 dL_law_1117 ?_
  refine lv_aload_n hx hb dL_law_1118 rfl (lv_at hl 1 rfl) ?_
  refine lv_iload hx hb dL_law_1119 (lv_at hl 5 rfl) ?_
  refine lv_iconst (v := 3) hx hb dL_law_1121 nc_iconst_3 ?_
  refine lv_iadd hx hb dL_law_1122 ?_
  refine va_sld hx hb hxs hbl hbA hw.2.2.2.1 hi.2.2.2.1 dL_law_1123 ?_
  refine pw_goI hw (pw_runV (As := [.int (xs (i + 1).toNatClampNeg), .int (xs (i + 2).toNatClampNeg), .int (xs (i + 3).toNatClampNeg)]) (rest := []) hC mm_X8_put tw_1458 (c_X8_put q3 _) ⟨rfl, rfl, by decide, by decide⟩ hw LM_m rfl hl.1 (Nat.le_of_ble_eq_true rfl) ⟨hcs.1, hcs.2⟩ rfl dL_law_1124) (fun H locs hw => ?_)
  refine lv_istore (lv' := [(6, .int v'), (5, .int (nI code)), (0, .ref b), (1, .ref (ad6 z 0)), (2, .ref (ad8 z 0)), (3, .ref (z + 116)), (4, .int i)]) hx hb dL_law_1127 hl (by decide) rfl (fun ls hl => ?_)
  refine lv_aload_n hx hb dL_law_1129 rfl (lv_at hl 4 rfl) ?_
  refine pw_goI hw (pw_runV (As := []) (rest := []) hC mm_X8_thrown tw_994 (c_X8_thrown LM_thrown _) ⟨rfl, rfl, by decide, by decide⟩ hw LM_m rfl hl.1 (Nat.le_of_ble_eq_true rfl) ⟨hcs.1, hcs.2⟩ rfl dL_law_1130) (fun H locs hw => ?_)
  refine lv_iload hx hb dL_law_1133 (lv_at hl 1 rfl) ?_
  refine lv_icmp_eq (tgt := 1140) hx hb dL_law_1135 (by decide) (fun c1 => ?_) (fun c1 => absurd q4 c1)
  refine lv_iload hx hb dL_law_1140 (lv_at hl 1 rfl) ?_
  refine lv_if_ne (tgt := 1157) hx hb dL_law_1142 (by decide) (fun c2 => ?_) (fun c2 => ?_)
  · refine lv_goto (tgt := 1838) hx hb dL_law_1157 (by decide) ?_
    exact kk _ _ _ _ _ _ _ _ _ ls R' (lv_sub hl [2, 3, 4, 5, 6] rfl) hw
  · have hc0 : code = 0 := nI_z (Nat.le_trans q6 (by decide)) c2
    refine lv_aload_n hx hb dL_law_1145 rfl (lv_at hl 5 rfl) ?_
    refine lv_iconst (v := 0) hx hb dL_law_1146 nc_iconst_0 ?_
    refine pw_lald hC hw LM_rd dL_law_1147 ?_
    rw [show (if code = 0 then vp_updL f 0 (Int32.toInt64 v) else f) 0 = Int32.toInt64 v' from by rw [if_pos hc0, ← q5 hc0]; rfl]
    refine lv_iload hx hb dL_law_1148 (lv_at hl 0 rfl) ?_
    refine lv_i2l hx hb dL_law_1150 rfl ?_
    refine W.lcmp hx hb dL_law_1151 ?_
    refine lv_if_eq (tgt := 1157) hx hb dL_law_1152 (by decide) (fun c3 => ?_) (fun c3 => absurd (lg_same rfl) c3)
    refine lv_goto (tgt := 1838) hx hb dL_law_1157 (by decide) ?_
    exact kk _ _ _ _ _ _ _ _ _ ls R' (lv_sub hl [2, 3, 4, 5, 6] rfl) hw
set_option maxRecDepth 100000 in
set_option maxHeartbeats 4000000 in
theorem lc_17 (h : LC p l s m args c A g b N xs) (R : REL J B I Ar) (hi : vi i N) (hl : lv_has ls 8 [(0, .ref b), (1, .ref (ad6 z 0)), (2, .ref (ad8 z 0)), (3, .ref (z + 116)), (4, .int i)]) (hw : PW g (LZ [] z 117) (LM g.2 z μb f J w B I V Ar) A s H locs) (hcs : cells + 8 ≤ room_1.cells ∧ slots + 48 ≤ room_1.slots)
    (kk : ∀ (f' : Nat → Int64) (J' : Nat → Int32) (w' : Nat) (B' : Nat → Nat → Int32) (I' : Nat → Int32) (V' : Nat → Value) (A' : Nat → Nat → Int32) (H1 : Heap) (locs1 : List Loc) (ls1 : Array Slot), REL J' B' I' A' → lv_has ls1 8 [(0, .ref b), (1, .ref (ad6 z 0)), (2, .ref (ad8 z 0)), (3, .ref (z + 116)), (4, .int i)] → PW g (LZ [] z 117) (LM g.2 z μb f' J' w' B' I' V' A') A s H1 locs1 → W p l e room_1 s m args below meth c H1 locs1 (cells + 8) (slots + 48) Q (F0 m 1838 ls1 [])) : W p l e room_1 s m args below meth c H locs cells slots Q (F0 m 1160 ls []) := by
  obtain ⟨hC, hl0, hX, hNC, hxs, hbl, hbA⟩ := h
  have hx := hC.1
  have hb := hC.2.1
  obtain ⟨J', w', B', I', V', A', code, v, v', res, q1, q2, q3, q4, q5, q6, R', -⟩ := lw_G' (μb := μb) (f := f) (fx := fun μ => f_X6_name g.2 (ad6 z 0) (xs (i + 1).toNatClampNeg) μ) (fy := fun μ => f_X8_name_ g.2 (ad8 z 0) (xs (i + 1).toNatClampNeg) μ) (fun μ0 μ1 => k_name (lay6z z) (lay8z z) R _) Int32.toInt64
  refine lv_aload_n hx hb dL_law_1160 rfl (lv_at hl 1 rfl) ?_
  refine lv_aload_n hx hb dL_law_1161 rfl (lv_at hl 0 rfl) ?_
  refine lv_iload hx hb dL_law_1162 (lv_at hl 4 rfl) ?_
  refine lv_iconst (v := 1) hx hb dL_law_1164 nc_iconst_1 ?_
  refine lv_iadd hx hb dL_law_1165 ?_
  refine va_sld hx hb hxs hbl hbA hw.2.2.2.1 hi.2.1 dL_law_1166 ?_
  refine lv_aload_n hx hb dL_law_1167 rfl (lv_at hl 3 rfl) ?_
  refine pw_runH (As := [.ref (ad6 z 0), .int (xs (i + 1).toNatClampNeg), .ref (z + 116)]) (rest := []) hC mh_L_name tw_868 (c_L_name hl0 LM_x q1 q2) ⟨by decide, by decide⟩ hw hX hNC rfl hl.1 (Nat.le_of_ble_eq_true rfl) ⟨Nat.le_trans (Nat.add_le_add_left (by decide) _) hcs.1, Nat.le_trans (Nat.add_le_add_left (by decide) _) hcs.2⟩ rfl dL_law_1168 (fun H locs hw => ?_)
  refine W.widen (k := cells + 8) (n := slots + 48) (Nat.add_le_add_left (by decide) _) (Nat.add_le_add_left (by decide) _) ?_
  refine lv_istore (lv' := [(5, .int (nI code)), (0, .ref b), (1, .ref (ad6 z 0)), (2, .ref (ad8 z 0)), (3, .ref (z + 116)), (4, .int i)]) hx hb dL_law_1171 hl (by decide) rfl (fun ls hl => ?_)
  refine lv_aload_n hx hb dL_law_1173 rfl (lv_at hl 3 rfl) ?_
  refine lv_aload_n hx hb dL_law_1174 rfl (lv_at hl 1 rfl) ?_
  refine lv_iload hx hb dL_law_1175 (lv_at hl 5 rfl) ?_
  refine lv_iconst (v := 1) hx hb dL_law_1177 nc_iconst_1 ?_
  refine lv_iadd hx hb dL_law_1178 ?_
  refine va_sld hx hb hxs hbl hbA hw.2.2.2.1 hi.2.1 dL_law_1179 ?_
  refine pw_goI hw (pw_runV (As := [.int (xs (i + 1).toNatClampNeg)]) (rest := []) hC mm_X8_name_ tw_1470 (c_X8_name_ q3 _) ⟨rfl, rfl, by decide, by decide⟩ hw LM_m rfl hl.1 (Nat.le_of_ble_eq_true rfl) ⟨hcs.1, hcs.2⟩ rfl dL_law_1180) (fun H locs hw => ?_)
  refine lv_istore (lv' := [(6, .int v'), (5, .int (nI code)), (0, .ref b), (1, .ref (ad6 z 0)), (2, .ref (ad8 z 0)), (3, .ref (z + 116)), (4, .int i)]) hx hb dL_law_1183 hl (by decide) rfl (fun ls hl => ?_)
  refine lv_aload_n hx hb dL_law_1185 rfl (lv_at hl 4 rfl) ?_
  refine pw_goI hw (pw_runV (As := []) (rest := []) hC mm_X8_thrown tw_994 (c_X8_thrown LM_thrown _) ⟨rfl, rfl, by decide, by decide⟩ hw LM_m rfl hl.1 (Nat.le_of_ble_eq_true rfl) ⟨hcs.1, hcs.2⟩ rfl dL_law_1186) (fun H locs hw => ?_)
  refine lv_iload hx hb dL_law_1189 (lv_at hl 1 rfl) ?_
  refine lv_icmp_eq (tgt := 1196) hx hb dL_law_1191 (by decide) (fun c1 => ?_) (fun c1 => absurd q4 c1)
  refine lv_iload hx hb dL_law_1196 (lv_at hl 1 rfl) ?_
  refine lv_if_ne (tgt := 1213) hx hb dL_law_1198 (by decide) (fun c2 => ?_) (fun c2 => ?_)
  · refine lv_goto (tgt := 1838) hx hb dL_law_1213 (by decide) ?_
    exact kk _ _ _ _ _ _ _ _ _ ls R' (lv_sub hl [2, 3, 4, 5, 6] rfl) hw
  · have hc0 : code = 0 := nI_z (Nat.le_trans q6 (by decide)) c2
    refine lv_aload_n hx hb dL_law_1201 rfl (lv_at hl 5 rfl) ?_
    refine lv_iconst (v := 0) hx hb dL_law_1202 nc_iconst_0 ?_
    refine pw_lald hC hw LM_rd dL_law_1203 ?_
    rw [show (if code = 0 then vp_updL f 0 (Int32.toInt64 v) else f) 0 = Int32.toInt64 v' from by rw [if_pos hc0, ← q5 hc0]; rfl]
    refine lv_iload hx hb dL_law_1204 (lv_at hl 0 rfl) ?_
    refine lv_i2l hx hb dL_law_1206 rfl ?_
    refine W.lcmp hx hb dL_law_1207 ?_
    refine lv_if_eq (tgt := 1213) hx hb dL_law_1208 (by decide) (fun c3 => ?_) (fun c3 => absurd (lg_same rfl) c3)
    refine lv_goto (tgt := 1838) hx hb dL_law_1213 (by decide) ?_
    exact kk _ _ _ _ _ _ _ _ _ ls R' (lv_sub hl [2, 3, 4, 5, 6] rfl) hw
set_option maxRecDepth 100000 in
set_option maxHeartbeats 4000000 in
theorem lc_18 (h : LC p l s m args c A g b N xs) (R : REL J B I Ar) (hi : vi i N) (hl : lv_has ls 8 [(0, .ref b), (1, .ref (ad6 z 0)), (2, .ref (ad8 z 0)), (3, .ref (z + 116)), (4, .int i)]) (hw : PW g (LZ [] z 117) (LM g.2 z μb f J w B I V Ar) A s H locs) (hcs : cells + 8 ≤ room_1.cells ∧ slots + 48 ≤ room_1.slots)
    (kk : ∀ (f' : Nat → Int64) (J' : Nat → Int32) (w' : Nat) (B' : Nat → Nat → Int32) (I' : Nat → Int32) (V' : Nat → Value) (A' : Nat → Nat → Int32) (H1 : Heap) (locs1 : List Loc) (ls1 : Array Slot), REL J' B' I' A' → lv_has ls1 8 [(0, .ref b), (1, .ref (ad6 z 0)), (2, .ref (ad8 z 0)), (3, .ref (z + 116)), (4, .int i)] → PW g (LZ [] z 117) (LM g.2 z μb f' J' w' B' I' V' A') A s H1 locs1 → W p l e room_1 s m args below meth c H1 locs1 (cells + 8) (slots + 48) Q (F0 m 1838 ls1 [])) : W p l e room_1 s m args below meth c H locs cells slots Q (F0 m 1216 ls []) := by
  obtain ⟨hC, hl0, hX, hNC, hxs, hbl, hbA⟩ := h
  have hx := hC.1
  have hb := hC.2.1
  obtain ⟨J', w', B', I', V', A', code, v, v', res, q1, q2, q3, q4, q5, q6, R', -⟩ := lw_G' (μb := μb) (f := f) (fx := fun μ => f_X6_drop g.2 (ad6 z 0) (xs (i + 1).toNatClampNeg) μ) (fy := fun μ => f_X8_drop g.2 (ad8 z 0) (xs (i + 1).toNatClampNeg) μ) (fun μ0 μ1 => k_drop (lay6z z) (lay8z z) R _) Int32.toInt64
  refine lv_aload_n hx hb dL_law_1216 rfl (lv_at hl 1 rfl) ?_
  refine lv_aload_n hx hb dL_law_1217 rfl (lv_at hl 0 rfl) ?_
  refine lv_iload hx hb dL_law_1218 (lv_at hl 4 rfl) ?_
  refine lv_iconst (v := 1) hx hb dL_law_1220 nc_iconst_1 ?_
  refine lv_iadd hx hb dL_law_1221 ?_
  refine va_sld hx hb hxs hbl hbA hw.2.2.2.1 hi.2.1 dL_law_1222 ?_
  refine lv_aload_n hx hb dL_law_1223 rfl (lv_at hl 3 rfl) ?_
  refine pw_runH (As := [.ref (ad6 z 0), .int (xs (i + 1).toNatClampNeg), .ref (z + 116)]) (rest := []) hC mh_L_drop tw_884 (c_L_drop hl0 LM_x q1 q2) ⟨by decide, by decide⟩ hw hX hNC rfl hl.1 (Nat.le_of_ble_eq_true rfl) ⟨Nat.le_trans (Nat.add_le_add_left (by decide) _) hcs.1, Nat.le_trans (Nat.add_le_add_left (by decide) _) hcs.2⟩ rfl dL_law_1224 (fun H locs hw => ?_)
  refine W.widen (k := cells + 8) (n := slots + 48) (Nat.add_le_add_left (by decide) _) (Nat.add_le_add_left (by decide) _) ?_
  refine lv_istore (lv' := [(5, .int (nI code)), (0, .ref b), (1, .ref (ad6 z 0)), (2, .ref (ad8 z 0)), (3, .ref (z + 116)), (4, .int i)]) hx hb dL_law_1227 hl (by decide) rfl (fun ls hl => ?_)
  refine lv_aload_n hx hb dL_law_1229 rfl (lv_at hl 3 rfl) ?_
  refine lv_aload_n hx hb dL_law_1230 rfl (lv_at hl 1 rfl) ?_
  refine lv_iload hx hb dL_law_1231 (lv_at hl 5 rfl) ?_
  refine lv_iconst (v := 1) hx hb dL_law_1233 nc_iconst_1 ?_
  refine lv_iadd hx hb dL_law_1234 ?_
  refine va_sld hx hb hxs hbl hbA hw.2.2.2.1 hi.2.1 dL_law_1235 ?_
  refine pw_goI hw (pw_runV (As := [.int (xs (i + 1).toNatClampNeg)]) (rest := []) hC mm_X8_drop tw_1474 (c_X8_drop q3 _) ⟨rfl, rfl, by decide, by decide⟩ hw LM_m rfl hl.1 (Nat.le_of_ble_eq_true rfl) ⟨hcs.1, hcs.2⟩ rfl dL_law_1236) (fun H locs hw => ?_)
  refine lv_istore (lv' := [(6, .int v'), (5, .int (nI code)), (0, .ref b), (1, .ref (ad6 z 0)), (2, .ref (ad8 z 0)), (3, .ref (z + 116)), (4, .int i)]) hx hb dL_law_1239 hl (by decide) rfl (fun ls hl => ?_)
  refine lv_aload_n hx hb dL_law_1241 rfl (lv_at hl 4 rfl) ?_
  refine pw_goI hw (pw_runV (As := []) (rest := []) hC mm_X8_thrown tw_994 (c_X8_thrown LM_thrown _) ⟨rfl, rfl, by decide, by decide⟩ hw LM_m rfl hl.1 (Nat.le_of_ble_eq_true rfl) ⟨hcs.1, hcs.2⟩ rfl dL_law_1242) (fun H locs hw => ?_)
  refine lv_iload hx hb dL_law_1245 (lv_at hl 1 rfl) ?_
  refine lv_icmp_eq (tgt := 1252) hx hb dL_law_1247 (by decide) (fun c1 => ?_) (fun c1 => absurd q4 c1)
  refine lv_iload hx hb dL_law_1252 (lv_at hl 1 rfl) ?_
  refine lv_if_ne (tgt := 1269) hx hb dL_law_1254 (by decide) (fun c2 => ?_) (fun c2 => ?_)
  · refine lv_goto (tgt := 1838) hx hb dL_law_1269 (by decide) ?_
    exact kk _ _ _ _ _ _ _ _ _ ls R' (lv_sub hl [2, 3, 4, 5, 6] rfl) hw
  · have hc0 : code = 0 := nI_z (Nat.le_trans q6 (by decide)) c2
    refine lv_aload_n hx hb dL_law_1257 rfl (lv_at hl 5 rfl) ?_
    refine lv_iconst (v := 0) hx hb dL_law_1258 nc_iconst_0 ?_
    refine pw_lald hC hw LM_rd dL_law_1259 ?_
    rw [show (if code = 0 then vp_updL f 0 (Int32.toInt64 v) else f) 0 = Int32.toInt64 v' from by rw [if_pos hc0, ← q5 hc0]; rfl]
    refine lv_iload hx hb dL_law_1260 (lv_at hl 0 rfl) ?_
    refine lv_i2l hx hb dL_law_1262 rfl ?_
    refine W.lcmp hx hb dL_law_1263 ?_
    refine lv_if_eq (tgt := 1269) hx hb dL_law_1264 (by decide) (fun c3 => ?_) (fun c3 => absurd (lg_same rfl) c3)
    refine lv_goto (tgt := 1838) hx hb dL_law_1269 (by decide) ?_
    exact kk _ _ _ _ _ _ _ _ _ ls R' (lv_sub hl [2, 3, 4, 5, 6] rfl) hw
set_option maxRecDepth 100000 in
set_option maxHeartbeats 4000000 in
theorem lc_19 (h : LC p l s m args c A g b N xs) (R : REL J B I Ar) (hi : vi i N) (hl : lv_has ls 8 [(0, .ref b), (1, .ref (ad6 z 0)), (2, .ref (ad8 z 0)), (3, .ref (z + 116)), (4, .int i)]) (hw : PW g (LZ [] z 117) (LM g.2 z μb f J w B I V Ar) A s H locs) (hcs : cells + 8 ≤ room_1.cells ∧ slots + 48 ≤ room_1.slots)
    (kk : ∀ (f' : Nat → Int64) (J' : Nat → Int32) (w' : Nat) (B' : Nat → Nat → Int32) (I' : Nat → Int32) (V' : Nat → Value) (A' : Nat → Nat → Int32) (H1 : Heap) (locs1 : List Loc) (ls1 : Array Slot), REL J' B' I' A' → lv_has ls1 8 [(0, .ref b), (1, .ref (ad6 z 0)), (2, .ref (ad8 z 0)), (3, .ref (z + 116)), (4, .int i)] → PW g (LZ [] z 117) (LM g.2 z μb f' J' w' B' I' V' A') A s H1 locs1 → W p l e room_1 s m args below meth c H1 locs1 (cells + 8) (slots + 48) Q (F0 m 1838 ls1 [])) : W p l e room_1 s m args below meth c H locs cells slots Q (F0 m 1272 ls []) := by
  obtain ⟨hC, hl0, hX, hNC, hxs, hbl, hbA⟩ := h
  have hx := hC.1
  have hb := hC.2.1
  obtain ⟨J', w', B', I', V', A', code, v, v', res, q1, q2, q3, q4, q5, q6, R', -⟩ := lw_G' (μb := μb) (f := f) (fx := fun μ => f_X6_move g.2 (ad6 z 0) (xs (i + 1).toNatClampNeg) (xs (i + 2).toNatClampNeg) μ) (fy := fun μ => f_X8_move g.2 (ad8 z 0) (xs (i + 1).toNatClampNeg) (xs (i + 2).toNatClampNeg) μ) (fun μ0 μ1 => k_move (lay6z z) (lay8z z) R _ _) (fun r => if r = 0 then 0 else 1)
  refine lv_aload_n hx hb dL_law_1272 rfl (lv_at hl 1 rfl) ?_
  refine lv_aload_n hx hb dL_law_1273 rfl (lv_at hl 0 rfl) ?_
  refine lv_iload hx hb dL_law_1274 (lv_at hl 4 rfl) ?_
  refine lv_iconst (v := 1) hx hb dL_law_1276 nc_iconst_1 ?_
  refine lv_iadd hx hb dL_law_1277 ?_
  refine va_sld hx hb hxs hbl hbA hw.2.2.2.1 hi.2.1 dL_law_1278 ?_
  refine lv_aload_n hx hb dL_law_1279 rfl (lv_at hl 0 rfl) ?_
  refine lv_iload hx hb dL_law_1280 (lv_at hl 4 rfl) ?_
  refine lv_iconst (v := 2) hx hb dL_law_1282 nc_iconst_2 ?_
  refine lv_iadd hx hb dL_law_1283 ?_
  refine va_sld hx hb hxs hbl hbA hw.2.2.2.1 hi.2.2.1 dL_law_1284 ?_
  refine lv_aload_n hx hb dL_law_1285 rfl (lv_at hl 3 rfl) ?_
  refine pw_runH (As := [.ref (ad6 z 0), .int (xs (i + 1).toNatClampNeg), .int (xs (i + 2).toNatClampNeg), .ref (z + 116)]) (rest := []) hC mh_L_move tw_891 (c_L_move hl0 LM_x q1 q2) ⟨by decide, by decide⟩ hw hX hNC rfl hl.1 (Nat.le_of_ble_eq_true rfl) ⟨Nat.le_trans (Nat.add_le_add_left (by decide) _) hcs.1, Nat.le_trans (Nat.add_le_add_left (by decide) _) hcs.2⟩ rfl dL_law_1286 (fun H locs hw => ?_)
  refine W.widen (k := cells + 8) (n := slots + 48) (Nat.add_le_add_left (by decide) _) (Nat.add_le_add_left (by decide) _) ?_
  refine lv_istore (lv' := [(5, .int (nI code)), (0, .ref b), (1, .ref (ad6 z 0)), (2, .ref (ad8 z 0)), (3, .ref (z + 116)), (4, .int i)]) hx hb dL_law_1289 hl (by decide) rfl (fun ls hl => ?_)
  refine lv_aload_n hx hb dL_law_1291 rfl (lv_at hl 3 rfl) ?_
  refine lv_aload_n hx hb dL_law_1292 rfl (lv_at hl 1 rfl) ?_
  refine lv_iload hx hb dL_law_1293 (lv_at hl 5 rfl) ?_
  refine lv_iconst (v := 1) hx hb dL_law_1295 nc_iconst_1 ?_
  refine lv_iadd hx hb dL_law_1296 ?_
  refine va_sld hx hb hxs hbl hbA hw.2.2.2.1 hi.2.1 dL_law_1297 ?_
  refine lv_aload_n hx hb dL_law_1298 rfl (lv_at hl 1 rfl) ?_
  refine lv_iload hx hb dL_law_1299 (lv_at hl 5 rfl) ?_
  refine lv_iconst (v := 2) hx hb dL_law_1301 nc_iconst_2 ?_
  refine lv_iadd hx hb dL_law_1302 ?_
  refine va_sld hx hb hxs hbl hbA hw.2.2.2.1 hi.2.2.1 dL_law_1303 ?_
  refine pw_goI hw (pw_runV (As := [.int (xs (i + 1).toNatClampNeg), .int (xs (i + 2).toNatClampNeg)]) (rest := []) hC mm_X8_move tw_1478 (c_X8_move q3 _) ⟨rfl, rfl, by decide, by decide⟩ hw LM_m rfl hl.1 (Nat.le_of_ble_eq_true rfl) ⟨hcs.1, hcs.2⟩ rfl dL_law_1304) (fun H locs hw => ?_)
  refine lv_istore (lv' := [(6, .int v'), (5, .int (nI code)), (0, .ref b), (1, .ref (ad6 z 0)), (2, .ref (ad8 z 0)), (3, .ref (z + 116)), (4, .int i)]) hx hb dL_law_1307 hl (by decide) rfl (fun ls hl => ?_)
  refine lv_aload_n hx hb dL_law_1309 rfl (lv_at hl 4 rfl) ?_
  refine pw_goI hw (pw_runV (As := []) (rest := []) hC mm_X8_thrown tw_994 (c_X8_thrown LM_thrown _) ⟨rfl, rfl, by decide, by decide⟩ hw LM_m rfl hl.1 (Nat.le_of_ble_eq_true rfl) ⟨hcs.1, hcs.2⟩ rfl dL_law_1310) (fun H locs hw => ?_)
  refine lv_iload hx hb dL_law_1313 (lv_at hl 1 rfl) ?_
  refine lv_icmp_eq (tgt := 1320) hx hb dL_law_1315 (by decide) (fun c1 => ?_) (fun c1 => absurd q4 c1)
  refine lv_iload hx hb dL_law_1320 (lv_at hl 1 rfl) ?_
  refine lv_if_ne (tgt := 1344) hx hb dL_law_1322 (by decide) (fun c2 => ?_) (fun c2 => ?_)
  · refine lv_goto (tgt := 1838) hx hb dL_law_1344 (by decide) ?_
    exact kk _ _ _ _ _ _ _ _ _ ls R' (lv_sub hl [2, 3, 4, 5, 6] rfl) hw
  · have hc0 : code = 0 := nI_z (Nat.le_trans q6 (by decide)) c2
    refine lv_aload_n hx hb dL_law_1325 rfl (lv_at hl 5 rfl) ?_
    refine lv_iconst (v := 0) hx hb dL_law_1326 nc_iconst_0 ?_
    refine pw_lald hC hw LM_rd dL_law_1327 ?_
    rw [show (if code = 0 then vp_updL f 0 ((fun r => if r = 0 then 0 else 1) v) else f) 0 = (fun r => if r = 0 then 0 else 1) v' from by rw [if_pos hc0, ← q5 hc0]; rfl]
    refine lv_iload hx hb dL_law_1328 (lv_at hl 0 rfl) ?_
    refine lv_if_eq (tgt := 1337) hx hb dL_law_1330 (by decide) (fun c4 => ?_) (fun c4 => ?_)
    · refine lv_lconst (v := 0) hx hb dL_law_1337 (by decide +kernel) ?_
      refine W.lcmp hx hb dL_law_1338 ?_
      refine lv_if_eq (tgt := 1344) hx hb dL_law_1339 (by decide) (fun c3 => ?_) (fun c3 => absurd (lg_same (if_pos c4)) c3)
      refine lv_goto (tgt := 1838) hx hb dL_law_1344 (by decide) ?_
      exact kk _ _ _ _ _ _ _ _ _ ls R' (lv_sub hl [2, 3, 4, 5, 6] rfl) hw
    · refine lv_lconst (v := 1) hx hb dL_law_1333 (by decide +kernel) ?_
      refine lv_goto (tgt := 1338) hx hb dL_law_1334 (by decide) ?_
      refine W.lcmp hx hb dL_law_1338 ?_
      refine lv_if_eq (tgt := 1344) hx hb dL_law_1339 (by decide) (fun c3 => ?_) (fun c3 => absurd (lg_same (if_neg c4)) c3)
      refine lv_goto (tgt := 1838) hx hb dL_law_1344 (by decide) ?_
      exact kk _ _ _ _ _ _ _ _ _ ls R' (lv_sub hl [2, 3, 4, 5, 6] rfl) hw
set_option maxRecDepth 100000 in
set_option maxHeartbeats 4000000 in
theorem lc_20 (h : LC p l s m args c A g b N xs) (R : REL J B I Ar) (hi : vi i N) (hl : lv_has ls 8 [(0, .ref b), (1, .ref (ad6 z 0)), (2, .ref (ad8 z 0)), (3, .ref (z + 116)), (4, .int i)]) (hw : PW g (LZ [] z 117) (LM g.2 z μb f J w B I V Ar) A s H locs) (hcs : cells + 8 ≤ room_1.cells ∧ slots + 48 ≤ room_1.slots)
    (kk : ∀ (f' : Nat → Int64) (J' : Nat → Int32) (w' : Nat) (B' : Nat → Nat → Int32) (I' : Nat → Int32) (V' : Nat → Value) (A' : Nat → Nat → Int32) (H1 : Heap) (locs1 : List Loc) (ls1 : Array Slot), REL J' B' I' A' → lv_has ls1 8 [(0, .ref b), (1, .ref (ad6 z 0)), (2, .ref (ad8 z 0)), (3, .ref (z + 116)), (4, .int i)] → PW g (LZ [] z 117) (LM g.2 z μb f' J' w' B' I' V' A') A s H1 locs1 → W p l e room_1 s m args below meth c H1 locs1 (cells + 8) (slots + 48) Q (F0 m 1838 ls1 [])) : W p l e room_1 s m args below meth c H locs cells slots Q (F0 m 1347 ls []) := by
  obtain ⟨hC, hl0, hX, hNC, hxs, hbl, hbA⟩ := h
  have hx := hC.1
  have hb := hC.2.1
  obtain ⟨J', w', B', I', V', A', code, v, v', res, q1, q2, q3, q4, q5, q6, R', -⟩ := lw_G' (μb := μb) (f := f) (fx := fun μ => f_X6_copy g.2 (ad6 z 0) (xs (i + 1).toNatClampNeg) (xs (i + 2).toNatClampNeg) μ) (fy := fun μ => f_X8_copy g.2 (ad8 z 0) (xs (i + 1).toNatClampNeg) (xs (i + 2).toNatClampNeg) μ) (fun μ0 μ1 => k_copy (lay6z z) (lay8z z) R _ _) Int32.toInt64
  refine lv_aload_n hx hb dL_law_1347 rfl (lv_at hl 1 rfl) ?_
  refine lv_aload_n hx hb dL_law_1348 rfl (lv_at hl 0 rfl) ?_
  refine lv_iload hx hb dL_law_1349 (lv_at hl 4 rfl) ?_
  refine lv_iconst (v := 1) hx hb dL_law_1351 nc_iconst_1 ?_
  refine lv_iadd hx hb dL_law_1352 ?_
  refine va_sld hx hb hxs hbl hbA hw.2.2.2.1 hi.2.1 dL_law_1353 ?_
  refine lv_aload_n hx hb dL_law_1354 rfl (lv_at hl 0 rfl) ?_
  refine lv_iload hx hb dL_law_1355 (lv_at hl 4 rfl) ?_
  refine lv_iconst (v := 2) hx hb dL_law_1357 nc_iconst_2 ?_
  refine lv_iadd hx hb dL_law_1358 ?_
  refine va_sld hx hb hxs hbl hbA hw.2.2.2.1 hi.2.2.1 dL_law_1359 ?_
  refine lv_aload_n hx hb dL_law_1360 rfl (lv_at hl 3 rfl) ?_
  refine pw_runH (As := [.ref (ad6 z 0), .int (xs (i + 1).toNatClampNeg), .int (xs (i + 2).toNatClampNeg), .ref (z + 116)]) (rest := []) hC mh_L_copy tw_900 (c_L_copy hl0 LM_x q1 q2) ⟨by decide, by decide⟩ hw hX hNC rfl hl.1 (Nat.le_of_ble_eq_true rfl) ⟨Nat.le_trans (Nat.add_le_add_left (by decide) _) hcs.1, Nat.le_trans (Nat.add_le_add_left (by decide) _) hcs.2⟩ rfl dL_law_1361 (fun H locs hw => ?_)
  refine W.widen (k := cells + 8) (n := slots + 48) (Nat.add_le_add_left (by decide) _) (Nat.add_le_add_left (by decide) _) ?_
  refine lv_istore (lv' := [(5, .int (nI code)), (0, .ref b), (1, .ref (ad6 z 0)), (2, .ref (ad8 z 0)), (3, .ref (z + 116)), (4, .int i)]) hx hb dL_law_1364 hl (by decide) rfl (fun ls hl => ?_)
  refine lv_aload_n hx hb dL_law_1366 rfl (lv_at hl 3 rfl) ?_
  refine lv_aload_n hx hb dL_law_1367 rfl (lv_at hl 1 rfl) ?_
  refine lv_iload hx hb dL_law_1368 (lv_at hl 5 rfl) ?_
  refine lv_iconst (v := 1) hx hb dL_law_1370 nc_iconst_1 ?_
  refine lv_iadd hx hb dL_law_1371 ?_
  refine va_sld hx hb hxs hbl hbA hw.2.2.2.1 hi.2.1 dL_law_1372 ?_
  refine lv_aload_n hx hb dL_law_1373 rfl (lv_at hl 1 rfl) ?_
  refine lv_iload hx hb dL_law_1374 (lv_at hl 5 rfl) ?_
  refine lv_iconst (v := 2) hx hb dL_law_1376 nc_iconst_2 ?_
  refine lv_iadd hx hb dL_law_1377 ?_
  refine va_sld hx hb hxs hbl hbA hw.2.2.2.1 hi.2.2.1 dL_law_1378 ?_
  refine pw_goI hw (pw_runV (As := [.int (xs (i + 1).toNatClampNeg), .int (xs (i + 2).toNatClampNeg)]) (rest := []) hC mm_X8_copy tw_1482 (c_X8_copy q3 _) ⟨rfl, rfl, by decide, by decide⟩ hw LM_m rfl hl.1 (Nat.le_of_ble_eq_true rfl) ⟨hcs.1, hcs.2⟩ rfl dL_law_1379) (fun H locs hw => ?_)
  refine lv_istore (lv' := [(6, .int v'), (5, .int (nI code)), (0, .ref b), (1, .ref (ad6 z 0)), (2, .ref (ad8 z 0)), (3, .ref (z + 116)), (4, .int i)]) hx hb dL_law_1382 hl (by decide) rfl (fun ls hl => ?_)
  refine lv_aload_n hx hb dL_law_1384 rfl (lv_at hl 4 rfl) ?_
  refine pw_goI hw (pw_runV (As := []) (rest := []) hC mm_X8_thrown tw_994 (c_X8_thrown LM_thrown _) ⟨rfl, rfl, by decide, by decide⟩ hw LM_m rfl hl.1 (Nat.le_of_ble_eq_true rfl) ⟨hcs.1, hcs.2⟩ rfl dL_law_1385) (fun H locs hw => ?_)
  refine lv_iload hx hb dL_law_1388 (lv_at hl 1 rfl) ?_
  refine lv_icmp_eq (tgt := 1395) hx hb dL_law_1390 (by decide) (fun c1 => ?_) (fun c1 => absurd q4 c1)
  refine lv_iload hx hb dL_law_1395 (lv_at hl 1 rfl) ?_
  refine lv_if_ne (tgt := 1412) hx hb dL_law_1397 (by decide) (fun c2 => ?_) (fun c2 => ?_)
  · refine lv_goto (tgt := 1838) hx hb dL_law_1412 (by decide) ?_
    exact kk _ _ _ _ _ _ _ _ _ ls R' (lv_sub hl [2, 3, 4, 5, 6] rfl) hw
  · have hc0 : code = 0 := nI_z (Nat.le_trans q6 (by decide)) c2
    refine lv_aload_n hx hb dL_law_1400 rfl (lv_at hl 5 rfl) ?_
    refine lv_iconst (v := 0) hx hb dL_law_1401 nc_iconst_0 ?_
    refine pw_lald hC hw LM_rd dL_law_1402 ?_
    rw [show (if code = 0 then vp_updL f 0 (Int32.toInt64 v) else f) 0 = Int32.toInt64 v' from by rw [if_pos hc0, ← q5 hc0]; rfl]
    refine lv_iload hx hb dL_law_1403 (lv_at hl 0 rfl) ?_
    refine lv_i2l hx hb dL_law_1405 rfl ?_
    refine W.lcmp hx hb dL_law_1406 ?_
    refine lv_if_eq (tgt := 1412) hx hb dL_law_1407 (by decide) (fun c3 => ?_) (fun c3 => absurd (lg_same rfl) c3)
    refine lv_goto (tgt := 1838) hx hb dL_law_1412 (by decide) ?_
    exact kk _ _ _ _ _ _ _ _ _ ls R' (lv_sub hl [2, 3, 4, 5, 6] rfl) hw
set_option maxRecDepth 100000 in
set_option maxHeartbeats 4000000 in
theorem lc_21 (h : LC p l s m args c A g b N xs) (R : REL J B I Ar) (hi : vi i N) (hl : lv_has ls 8 [(0, .ref b), (1, .ref (ad6 z 0)), (2, .ref (ad8 z 0)), (3, .ref (z + 116)), (4, .int i)]) (hw : PW g (LZ [] z 117) (LM g.2 z μb f J w B I V Ar) A s H locs) (hcs : cells + 8 ≤ room_1.cells ∧ slots + 48 ≤ room_1.slots)
    (kk : ∀ (f' : Nat → Int64) (J' : Nat → Int32) (w' : Nat) (B' : Nat → Nat → Int32) (I' : Nat → Int32) (V' : Nat → Value) (A' : Nat → Nat → Int32) (H1 : Heap) (locs1 : List Loc) (ls1 : Array Slot), REL J' B' I' A' → lv_has ls1 8 [(0, .ref b), (1, .ref (ad6 z 0)), (2, .ref (ad8 z 0)), (3, .ref (z + 116)), (4, .int i)] → PW g (LZ [] z 117) (LM g.2 z μb f' J' w' B' I' V' A') A s H1 locs1 → W p l e room_1 s m args below meth c H1 locs1 (cells + 8) (slots + 48) Q (F0 m 1838 ls1 [])) : W p l e room_1 s m args below meth c H locs cells slots Q (F0 m 1415 ls []) := by
  obtain ⟨hC, hl0, hX, hNC, hxs, hbl, hbA⟩ := h
  have hx := hC.1
  have hb := hC.2.1
  obtain ⟨J', w', B', I', V', A', code, v, v', res, q1, q2, q3, q4, q5, q6, R', -⟩ := lw_G' (μb := μb) (f := f) (fx := fun μ => f_X6_set g.2 (ad6 z 0) (xs (i + 1).toNatClampNeg) (xs (i + 2).toNatClampNeg) (((Int32.toInt64 (xs (i + 3).toNatClampNeg)) <<< (Int32.toInt64 32 &&& 63)) ||| ((Int32.toInt64 (xs (i + 4).toNatClampNeg)) &&& (4294967295 : Int64))) μ) (fy := fun μ => f_X8_set g.2 (ad8 z 0) (xs (i + 1).toNatClampNeg) (xs (i + 2).toNatClampNeg) (((Int32.toInt64 (xs (i + 3).toNatClampNeg)) <<< (Int32.toInt64 32 &&& 63)) ||| ((Int32.toInt64 (xs (i + 4).toNatClampNeg)) &&& (4294967295 : Int64))) μ) (fun μ0 μ1 => k_set (lay6z z) (lay8z z) R _ _ _) Int32.toInt64
  refine lv_aload_n hx hb dL_law_1415 rfl (lv_at hl 1 rfl) ?_
  refine lv_aload_n hx hb dL_law_1416 rfl (lv_at hl 0 rfl) ?_
  refine lv_iload hx hb dL_law_1417 (lv_at hl 4 rfl) ?_
  refine lv_iconst (v := 1) hx hb dL_law_1419 nc_iconst_1 ?_
  refine lv_iadd hx hb dL_law_1420 ?_
  refine va_sld hx hb hxs hbl hbA hw.2.2.2.1 hi.2.1 dL_law_1421 ?_
  refine lv_aload_n hx hb dL_law_1422 rfl (lv_at hl 0 rfl) ?_
  refine lv_iload hx hb dL_law_1423 (lv_at hl 4 rfl) ?_
  refine lv_iconst (v := 2) hx hb dL_law_1425 nc_iconst_2 ?_
  refine lv_iadd hx hb dL_law_1426 ?_
  refine va_sld hx hb hxs hbl hbA hw.2.2.2.1 hi.2.2.1 dL_law_1427 ?_
  refine lv_aload_n hx hb dL_law_1428 rfl (lv_at hl 0 rfl) ?_
  refine lv_iload hx hb dL_law_1429 (lv_at hl 4 rfl) ?_
  refine lv_iconst (v := 3) hx hb dL_law_1431 nc_iconst_3 ?_
  refine lv_iadd hx hb dL_law_1432 ?_
  refine va_sld hx hb hxs hbl hbA hw.2.2.2.1 hi.2.2.2.1 dL_law_1433 ?_
  refine lv_i2l hx hb dL_law_1434 rfl ?_
  refine lv_bipush (v := 32) hx hb dL_law_1435 nc_bipush_32 ?_
  refine lv_lshl hx hb dL_law_1437 rfl ?_
  refine lv_aload_n hx hb dL_law_1438 rfl (lv_at hl 0 rfl) ?_
  refine lv_iload hx hb dL_law_1439 (lv_at hl 4 rfl) ?_
  refine lv_iconst (v := 4) hx hb dL_law_1441 nc_iconst_4 ?_
  refine lv_iadd hx hb dL_law_1442 ?_
  refine va_sld hx hb hxs hbl hbA hw.2.2.2.1 hi.2.2.2.2.1 dL_law_1443 ?_
  refine lv_i2l hx hb dL_law_1444 rfl ?_
  refine lv_ldc2 (v := 4294967295) hx hb hC.2.2.2.1 (hC.2.2.2.2 _ tw_1543) dL_law_1445 ?_
  refine lv_land hx hb dL_law_1448 ?_
  refine lv_lor hx hb dL_law_1449 ?_
  refine lv_aload_n hx hb dL_law_1450 rfl (lv_at hl 3 rfl) ?_
  refine pw_runH (As := [.ref (ad6 z 0), .int (xs (i + 1).toNatClampNeg), .int (xs (i + 2).toNatClampNeg), .long (((Int32.toInt64 (xs (i + 3).toNatClampNeg)) <<< (Int32.toInt64 32 &&& 63)) ||| ((Int32.toInt64 (xs (i + 4).toNatClampNeg)) &&& (4294967295 : Int64))), .ref (z + 116)]) (rest := []) hC mh_L_set tw_911 (c_L_set hl0 LM_x q1 q2) ⟨by decide, by decide⟩ hw hX hNC rfl hl.1 (Nat.le_of_ble_eq_true rfl) ⟨Nat.le_trans (Nat.add_le_add_left (by decide) _) hcs.1, Nat.le_trans (Nat.add_le_add_left (by decide) _) hcs.2⟩ rfl dL_law_1451 (fun H locs hw => ?_)
  refine W.widen (k := cells + 8) (n := slots + 48) (Nat.add_le_add_left (by decide) _) (Nat.add_le_add_left (by decide) _) ?_
  refine lv_istore (lv' := [(5, .int (nI code)), (0, .ref b), (1, .ref (ad6 z 0)), (2, .ref (ad8 z 0)), (3, .ref (z + 116)), (4, .int i)]) hx hb dL_law_1454 hl (by decide) rfl (fun ls hl => ?_)
  refine lv_aload_n hx hb dL_law_1456 rfl (lv_at hl 3 rfl) ?_
  refine lv_aload_n hx hb dL_law_1457 rfl (lv_at hl 1 rfl) ?_
  refine lv_iload hx hb dL_law_1458 (lv_at hl 5 rfl) ?_
  refine lv_iconst (v := 1) hx hb dL_law_1460 nc_iconst_1 ?_
  refine lv_iadd hx hb dL_law_1461 ?_
  refine va_sld hx hb hxs hbl hbA hw.2.2.2.1 hi.2.1 dL_law_1462 ?_
  refine lv_aload_n hx hb dL_law_1463 rfl (lv_at hl 1 rfl) ?_
  refine lv_iload hx hb dL_law_1464 (lv_at hl 5 rfl) ?_
  refine lv_iconst (v := 2) hx hb dL_law_1466 nc_iconst_2 ?_
  refine lv_iadd hx hb dL_law_1467 ?_
  refine va_sld hx hb hxs hbl hbA hw.2.2.2.1 hi.2.2.1 dL_law_1468 ?_
  refine lv_aload_n hx hb dL_law_1469 rfl (lv_at hl 1 rfl) ?_
  refine lv_iload hx hb dL_law_1470 (lv_at hl 5 rfl) ?_
  refine lv_iconst (v := 3) hx hb dL_law_1472 nc_iconst_3 ?_
  refine lv_iadd hx hb dL_law_1473 ?_
  refine va_sld hx hb hxs hbl hbA hw.2.2.2.1 hi.2.2.2.1 dL_law_1474 ?_
  refine lv_i2l hx hb dL_law_1475 rfl ?_
  refine lv_bipush (v := 32) hx hb dL_law_1476 nc_bipush_32 ?_
  refine lv_lshl hx hb dL_law_1478 rfl ?_
  refine lv_aload_n hx hb dL_law_1479 rfl (lv_at hl 1 rfl) ?_
  refine lv_iload hx hb dL_law_1480 (lv_at hl 5 rfl) ?_
  refine lv_iconst (v := 4) hx hb dL_law_1482 nc_iconst_4 ?_
  refine lv_iadd hx hb dL_law_1483 ?_
  refine va_sld hx hb hxs hbl hbA hw.2.2.2.1 hi.2.2.2.2.1 dL_law_1484 ?_
  refine lv_i2l hx hb dL_law_1485 rfl ?_
  refine lv_ldc2 (v := 4294967295) hx hb hC.2.2.2.1 (hC.2.2.2.2 _ tw_1543) dL_law_1486 ?_
  refine lv_land hx hb dL_law_1489 ?_
  refine lv_lor hx hb dL_law_1490 ?_
  refine pw_goI hw (pw_runV (As := [.int (xs (i + 1).toNatClampNeg), .int (xs (i + 2).toNatClampNeg), .long (((Int32.toInt64 (xs (i + 3).toNatClampNeg)) <<< (Int32.toInt64 32 &&& 63)) ||| ((Int32.toInt64 (xs (i + 4).toNatClampNeg)) &&& (4294967295 : Int64)))]) (rest := []) hC mm_X8_set tw_1491 (c_X8_set q3 _) ⟨rfl, rfl, by decide, by decide⟩ hw LM_m rfl hl.1 (Nat.le_of_ble_eq_true rfl) ⟨hcs.1, hcs.2⟩ rfl dL_law_1491) (fun H locs hw => ?_)
  refine lv_istore (lv' := [(6, .int v'), (5, .int (nI code)), (0, .ref b), (1, .ref (ad6 z 0)), (2, .ref (ad8 z 0)), (3, .ref (z + 116)), (4, .int i)]) hx hb dL_law_1494 hl (by decide) rfl (fun ls hl => ?_)
  refine lv_aload_n hx hb dL_law_1496 rfl (lv_at hl 4 rfl) ?_
  refine pw_goI hw (pw_runV (As := []) (rest := []) hC mm_X8_thrown tw_994 (c_X8_thrown LM_thrown _) ⟨rfl, rfl, by decide, by decide⟩ hw LM_m rfl hl.1 (Nat.le_of_ble_eq_true rfl) ⟨hcs.1, hcs.2⟩ rfl dL_law_1497) (fun H locs hw => ?_)
  refine lv_iload hx hb dL_law_1500 (lv_at hl 1 rfl) ?_
  refine lv_icmp_eq (tgt := 1507) hx hb dL_law_1502 (by decide) (fun c1 => ?_) (fun c1 => absurd q4 c1)
  refine lv_iload hx hb dL_law_1507 (lv_at hl 1 rfl) ?_
  refine lv_if_ne (tgt := 1524) hx hb dL_law_1509 (by decide) (fun c2 => ?_) (fun c2 => ?_)
  · refine lv_goto (tgt := 1838) hx hb dL_law_1524 (by decide) ?_
    exact kk _ _ _ _ _ _ _ _ _ ls R' (lv_sub hl [2, 3, 4, 5, 6] rfl) hw
  · have hc0 : code = 0 := nI_z (Nat.le_trans q6 (by decide)) c2
    refine lv_aload_n hx hb dL_law_1512 rfl (lv_at hl 5 rfl) ?_
    refine lv_iconst (v := 0) hx hb dL_law_1513 nc_iconst_0 ?_
    refine pw_lald hC hw LM_rd dL_law_1514 ?_
    rw [show (if code = 0 then vp_updL f 0 (Int32.toInt64 v) else f) 0 = Int32.toInt64 v' from by rw [if_pos hc0, ← q5 hc0]; rfl]
    refine lv_iload hx hb dL_law_1515 (lv_at hl 0 rfl) ?_
    refine lv_i2l hx hb dL_law_1517 rfl ?_
    refine W.lcmp hx hb dL_law_1518 ?_
    refine lv_if_eq (tgt := 1524) hx hb dL_law_1519 (by decide) (fun c3 => ?_) (fun c3 => absurd (lg_same rfl) c3)
    refine lv_goto (tgt := 1838) hx hb dL_law_1524 (by decide) ?_
    exact kk _ _ _ _ _ _ _ _ _ ls R' (lv_sub hl [2, 3, 4, 5, 6] rfl) hw
set_option maxRecDepth 100000 in
set_option maxHeartbeats 4000000 in
theorem lc_22 (h : LC p l s m args c A g b N xs) (R : REL J B I Ar) (hi : vi i N) (hl : lv_has ls 8 [(0, .ref b), (1, .ref (ad6 z 0)), (2, .ref (ad8 z 0)), (3, .ref (z + 116)), (4, .int i)]) (hw : PW g (LZ [] z 117) (LM g.2 z μb f J w B I V Ar) A s H locs) (hcs : cells + 8 ≤ room_1.cells ∧ slots + 48 ≤ room_1.slots)
    (kk : ∀ (f' : Nat → Int64) (J' : Nat → Int32) (w' : Nat) (B' : Nat → Nat → Int32) (I' : Nat → Int32) (V' : Nat → Value) (A' : Nat → Nat → Int32) (H1 : Heap) (locs1 : List Loc) (ls1 : Array Slot), REL J' B' I' A' → lv_has ls1 8 [(0, .ref b), (1, .ref (ad6 z 0)), (2, .ref (ad8 z 0)), (3, .ref (z + 116)), (4, .int i)] → PW g (LZ [] z 117) (LM g.2 z μb f' J' w' B' I' V' A') A s H1 locs1 → W p l e room_1 s m args below meth c H1 locs1 (cells + 8) (slots + 48) Q (F0 m 1838 ls1 [])) : W p l e room_1 s m args below meth c H locs cells slots Q (F0 m 1527 ls []) := by
  obtain ⟨hC, hl0, hX, hNC, hxs, hbl, hbA⟩ := h
  have hx := hC.1
  have hb := hC.2.1
  obtain ⟨J', w', B', I', V', A', v, q1, q2, R'⟩ := lw_Z' (μb := μb) (f := f) (fx := fun μ => unX (f_X6_latest g.2 (ad6 z 0) (xs (i + 1).toNatClampNeg) μ)) (fy := fun μ => f_X8_latest g.2 (ad8 z 0) (xs (i + 1).toNatClampNeg) μ) (fun μ0 μ1 => unX_ans (k_latest (lay6z z) (lay8z z) R _))
  replace q1 := unX_of q1
  refine lv_aload_n hx hb dL_law_1527 rfl (lv_at hl 1 rfl) ?_
  refine lv_aload_n hx hb dL_law_1528 rfl (lv_at hl 0 rfl) ?_
  refine lv_iload hx hb dL_law_1529 (lv_at hl 4 rfl) ?_
  refine lv_iconst (v := 1) hx hb dL_law_1531 nc_iconst_1 ?_
  refine lv_iadd hx hb dL_law_1532 ?_
  refine va_sld hx hb hxs hbl hbA hw.2.2.2.1 hi.2.1 dL_law_1533 ?_
  refine pw_goX (v := some (.int v)) hw (pw_runVX (As := [.int (xs (i + 1).toNatClampNeg)]) (rest := []) hC mm_X6_latest tw_425 (c_X6_latest hl0 q1) ⟨by decide, by decide⟩ hw hX LM_x rfl hl.1 (Nat.le_of_ble_eq_true rfl) ⟨Nat.le_trans (Nat.add_le_add_left (by decide) _) hcs.1, Nat.le_trans (Nat.add_le_add_left (by decide) _) hcs.2⟩ rfl dL_law_1534) (fun H locs hw => ?_)
  refine W.eq (g2 := F0 m 1537 ls [.int v]) rfl ?_
  refine W.widen (k := cells + 8) (n := slots + 48) (Nat.add_le_add_left (by decide) _) (Nat.add_le_add_left (by decide) _) ?_
  refine lv_aload_n hx hb dL_law_1537 rfl (lv_at hl 2 rfl) ?_
  refine lv_aload_n hx hb dL_law_1538 rfl (lv_at hl 0 rfl) ?_
  refine lv_iload hx hb dL_law_1539 (lv_at hl 4 rfl) ?_
  refine lv_iconst (v := 1) hx hb dL_law_1541 nc_iconst_1 ?_
  refine lv_iadd hx hb dL_law_1542 ?_
  refine va_sld hx hb hxs hbl hbA hw.2.2.2.1 hi.2.1 dL_law_1543 ?_
  refine pw_goI hw (pw_runV (As := [.int (xs (i + 1).toNatClampNeg)]) (rest := [.int v]) hC mm_X8_latest tw_1406 (c_X8_latest q2 _) ⟨rfl, rfl, by decide, by decide⟩ hw LM_m rfl hl.1 (Nat.le_of_ble_eq_true rfl) ⟨hcs.1, hcs.2⟩ rfl dL_law_1544) (fun H locs hw => ?_)
  refine lv_icmp_eq (tgt := 1838) hx hb dL_law_1547 (by decide) (fun c1 => ?_) (fun c1 => absurd rfl c1)
  exact kk _ _ _ _ _ _ _ _ _ ls R' (lv_sub hl [0, 1, 2, 3, 4] rfl) hw
set_option maxRecDepth 100000 in
set_option maxHeartbeats 4000000 in
theorem lc_23 (h : LC p l s m args c A g b N xs) (R : REL J B I Ar) (hi : vi i N) (hl : lv_has ls 8 [(0, .ref b), (1, .ref (ad6 z 0)), (2, .ref (ad8 z 0)), (3, .ref (z + 116)), (4, .int i)]) (hw : PW g (LZ [] z 117) (LM g.2 z μb f J w B I V Ar) A s H locs) (hcs : cells + 8 ≤ room_1.cells ∧ slots + 48 ≤ room_1.slots)
    (kk : ∀ (f' : Nat → Int64) (J' : Nat → Int32) (w' : Nat) (B' : Nat → Nat → Int32) (I' : Nat → Int32) (V' : Nat → Value) (A' : Nat → Nat → Int32) (H1 : Heap) (locs1 : List Loc) (ls1 : Array Slot), REL J' B' I' A' → lv_has ls1 8 [(0, .ref b), (1, .ref (ad6 z 0)), (2, .ref (ad8 z 0)), (3, .ref (z + 116)), (4, .int i)] → PW g (LZ [] z 117) (LM g.2 z μb f' J' w' B' I' V' A') A s H1 locs1 → W p l e room_1 s m args below meth c H1 locs1 (cells + 8) (slots + 48) Q (F0 m 1838 ls1 [])) : W p l e room_1 s m args below meth c H locs cells slots Q (F0 m 1552 ls []) := by
  obtain ⟨hC, hl0, hX, hNC, hxs, hbl, hbA⟩ := h
  have hx := hC.1
  have hb := hC.2.1
  obtain ⟨J', w', B', I', V', A', q1, q2, R'⟩ := lw_V' (μb := μb) (f := f) (fx := fun μ => f_X6_begin g.2 (ad6 z 0) μ) (fy := fun μ => f_X8_begin g.2 (ad8 z 0) μ) (fun μ0 μ1 => k_begin (lay6z z) (lay8z z) R)
  refine lv_aload_n hx hb dL_law_1552 rfl (lv_at hl 1 rfl) ?_
  refine pw_goV hw (pw_runV (As := []) (rest := []) hC mm_X6_begin tw_503 (c_X6_begin q1 _) ⟨rfl, rfl, by decide, by decide⟩ hw LM_x rfl hl.1 (Nat.le_of_ble_eq_true rfl) ⟨Nat.le_trans (Nat.le_add_right _ _) hcs.1, Nat.le_trans (Nat.le_add_right _ _) hcs.2⟩ rfl dL_law_1553) (fun H locs hw => ?_)
  refine lv_aload_n hx hb dL_law_1556 rfl (lv_at hl 2 rfl) ?_
  refine pw_goV hw (pw_runV (As := []) (rest := []) hC mm_X8_begin tw_1495 (c_X8_begin q2 _) ⟨rfl, rfl, by decide, by decide⟩ hw LM_m rfl hl.1 (Nat.le_of_ble_eq_true rfl) ⟨Nat.le_trans (Nat.le_add_right _ _) hcs.1, Nat.le_trans (Nat.le_add_right _ _) hcs.2⟩ rfl dL_law_1557) (fun H locs hw => ?_)
  refine lv_goto (tgt := 1838) hx hb dL_law_1560 (by decide) ?_
  refine W.widen (k := cells + 8) (n := slots + 48) (Nat.le_add_right _ _) (Nat.le_add_right _ _) ?_
  exact kk _ _ _ _ _ _ _ _ _ ls R' (lv_sub hl [0, 1, 2, 3, 4] rfl) hw
set_option maxRecDepth 100000 in
set_option maxHeartbeats 4000000 in
theorem lc_24 (h : LC p l s m args c A g b N xs) (R : REL J B I Ar) (hi : vi i N) (hl : lv_has ls 8 [(0, .ref b), (1, .ref (ad6 z 0)), (2, .ref (ad8 z 0)), (3, .ref (z + 116)), (4, .int i)]) (hw : PW g (LZ [] z 117) (LM g.2 z μb f J w B I V Ar) A s H locs) (hcs : cells + 8 ≤ room_1.cells ∧ slots + 48 ≤ room_1.slots)
    (kk : ∀ (f' : Nat → Int64) (J' : Nat → Int32) (w' : Nat) (B' : Nat → Nat → Int32) (I' : Nat → Int32) (V' : Nat → Value) (A' : Nat → Nat → Int32) (H1 : Heap) (locs1 : List Loc) (ls1 : Array Slot), REL J' B' I' A' → lv_has ls1 8 [(0, .ref b), (1, .ref (ad6 z 0)), (2, .ref (ad8 z 0)), (3, .ref (z + 116)), (4, .int i)] → PW g (LZ [] z 117) (LM g.2 z μb f' J' w' B' I' V' A') A s H1 locs1 → W p l e room_1 s m args below meth c H1 locs1 (cells + 8) (slots + 48) Q (F0 m 1838 ls1 [])) : W p l e room_1 s m args below meth c H locs cells slots Q (F0 m 1563 ls []) := by
  obtain ⟨hC, hl0, hX, hNC, hxs, hbl, hbA⟩ := h
  have hx := hC.1
  have hb := hC.2.1
  obtain ⟨J', w', B', I', V', A', code, v, v', res, q1, q2, q3, q4, q5, q6, R', -⟩ := lw_G' (μb := μb) (f := f) (fx := fun μ => f_X6_write g.2 (ad6 z 0) (xs (i + 1).toNatClampNeg) μ) (fy := fun μ => f_X8_write g.2 (ad8 z 0) (xs (i + 1).toNatClampNeg) μ) (fun μ0 μ1 => k_write (lay6z z) (lay8z z) R _) Int32.toInt64
  refine lv_aload_n hx hb dL_law_1563 rfl (lv_at hl 1 rfl) ?_
  refine lv_aload_n hx hb dL_law_1564 rfl (lv_at hl 0 rfl) ?_
  refine lv_iload hx hb dL_law_1565 (lv_at hl 4 rfl) ?_
  refine lv_iconst (v := 1) hx hb dL_law_1567 nc_iconst_1 ?_
  refine lv_iadd hx hb dL_law_1568 ?_
  refine va_sld hx hb hxs hbl hbA hw.2.2.2.1 hi.2.1 dL_law_1569 ?_
  refine lv_aload_n hx hb dL_law_1570 rfl (lv_at hl 3 rfl) ?_
  refine pw_runH (As := [.ref (ad6 z 0), .int (xs (i + 1).toNatClampNeg), .ref (z + 116)]) (rest := []) hC mh_L_write tw_918 (c_L_write hl0 LM_x q1 q2) ⟨by decide, by decide⟩ hw hX hNC rfl hl.1 (Nat.le_of_ble_eq_true rfl) ⟨Nat.le_trans (Nat.add_le_add_left (by decide) _) hcs.1, Nat.le_trans (Nat.add_le_add_left (by decide) _) hcs.2⟩ rfl dL_law_1571 (fun H locs hw => ?_)
  refine W.widen (k := cells + 8) (n := slots + 48) (Nat.add_le_add_left (by decide) _) (Nat.add_le_add_left (by decide) _) ?_
  refine lv_istore (lv' := [(5, .int (nI code)), (0, .ref b), (1, .ref (ad6 z 0)), (2, .ref (ad8 z 0)), (3, .ref (z + 116)), (4, .int i)]) hx hb dL_law_1574 hl (by decide) rfl (fun ls hl => ?_)
  refine lv_aload_n hx hb dL_law_1576 rfl (lv_at hl 3 rfl) ?_
  refine lv_aload_n hx hb dL_law_1577 rfl (lv_at hl 1 rfl) ?_
  refine lv_iload hx hb dL_law_1578 (lv_at hl 5 rfl) ?_
  refine lv_iconst (v := 1) hx hb dL_law_1580 nc_iconst_1 ?_
  refine lv_iadd hx hb dL_law_1581 ?_
  refine va_sld hx hb hxs hbl hbA hw.2.2.2.1 hi.2.1 dL_law_1582 ?_
  refine pw_goI hw (pw_runV (As := [.int (xs (i + 1).toNatClampNeg)]) (rest := []) hC mm_X8_write tw_1507 (c_X8_write q3 _) ⟨rfl, rfl, by decide, by decide⟩ hw LM_m rfl hl.1 (Nat.le_of_ble_eq_true rfl) ⟨hcs.1, hcs.2⟩ rfl dL_law_1583) (fun H locs hw => ?_)
  refine lv_istore (lv' := [(6, .int v'), (5, .int (nI code)), (0, .ref b), (1, .ref (ad6 z 0)), (2, .ref (ad8 z 0)), (3, .ref (z + 116)), (4, .int i)]) hx hb dL_law_1586 hl (by decide) rfl (fun ls hl => ?_)
  refine lv_aload_n hx hb dL_law_1588 rfl (lv_at hl 4 rfl) ?_
  refine pw_goI hw (pw_runV (As := []) (rest := []) hC mm_X8_thrown tw_994 (c_X8_thrown LM_thrown _) ⟨rfl, rfl, by decide, by decide⟩ hw LM_m rfl hl.1 (Nat.le_of_ble_eq_true rfl) ⟨hcs.1, hcs.2⟩ rfl dL_law_1589) (fun H locs hw => ?_)
  refine lv_iload hx hb dL_law_1592 (lv_at hl 1 rfl) ?_
  refine lv_icmp_eq (tgt := 1599) hx hb dL_law_1594 (by decide) (fun c1 => ?_) (fun c1 => absurd q4 c1)
  refine lv_iload hx hb dL_law_1599 (lv_at hl 1 rfl) ?_
  refine lv_if_ne (tgt := 1616) hx hb dL_law_1601 (by decide) (fun c2 => ?_) (fun c2 => ?_)
  · refine lv_goto (tgt := 1838) hx hb dL_law_1616 (by decide) ?_
    exact kk _ _ _ _ _ _ _ _ _ ls R' (lv_sub hl [2, 3, 4, 5, 6] rfl) hw
  · have hc0 : code = 0 := nI_z (Nat.le_trans q6 (by decide)) c2
    refine lv_aload_n hx hb dL_law_1604 rfl (lv_at hl 5 rfl) ?_
    refine lv_iconst (v := 0) hx hb dL_law_1605 nc_iconst_0 ?_
    refine pw_lald hC hw LM_rd dL_law_1606 ?_
    rw [show (if code = 0 then vp_updL f 0 (Int32.toInt64 v) else f) 0 = Int32.toInt64 v' from by rw [if_pos hc0, ← q5 hc0]; rfl]
    refine lv_iload hx hb dL_law_1607 (lv_at hl 0 rfl) ?_
    refine lv_i2l hx hb dL_law_1609 rfl ?_
    refine W.lcmp hx hb dL_law_1610 ?_
    refine lv_if_eq (tgt := 1616) hx hb dL_law_1611 (by decide) (fun c3 => ?_) (fun c3 => absurd (lg_same rfl) c3)
    refine lv_goto (tgt := 1838) hx hb dL_law_1616 (by decide) ?_
    exact kk _ _ _ _ _ _ _ _ _ ls R' (lv_sub hl [2, 3, 4, 5, 6] rfl) hw
set_option maxRecDepth 100000 in
set_option maxHeartbeats 4000000 in
theorem lc_25 (h : LC p l s m args c A g b N xs) (R : REL J B I Ar) (hi : vi i N) (hl : lv_has ls 8 [(0, .ref b), (1, .ref (ad6 z 0)), (2, .ref (ad8 z 0)), (3, .ref (z + 116)), (4, .int i)]) (hw : PW g (LZ [] z 117) (LM g.2 z μb f J w B I V Ar) A s H locs) (hcs : cells + 8 ≤ room_1.cells ∧ slots + 48 ≤ room_1.slots)
    (kk : ∀ (f' : Nat → Int64) (J' : Nat → Int32) (w' : Nat) (B' : Nat → Nat → Int32) (I' : Nat → Int32) (V' : Nat → Value) (A' : Nat → Nat → Int32) (H1 : Heap) (locs1 : List Loc) (ls1 : Array Slot), REL J' B' I' A' → lv_has ls1 8 [(0, .ref b), (1, .ref (ad6 z 0)), (2, .ref (ad8 z 0)), (3, .ref (z + 116)), (4, .int i)] → PW g (LZ [] z 117) (LM g.2 z μb f' J' w' B' I' V' A') A s H1 locs1 → W p l e room_1 s m args below meth c H1 locs1 (cells + 8) (slots + 48) Q (F0 m 1838 ls1 [])) : W p l e room_1 s m args below meth c H locs cells slots Q (F0 m 1619 ls []) := by
  obtain ⟨hC, hl0, hX, hNC, hxs, hbl, hbA⟩ := h
  have hx := hC.1
  have hb := hC.2.1
  obtain ⟨J', w', B', I', V', A', code, v, v', res, q1, q2, q3, q4, q5, q6, R', -⟩ := lw_G' (μb := μb) (f := f) (fx := fun μ => f_X6_open g.2 (ad6 z 0) (xs (i + 1).toNatClampNeg) μ) (fy := fun μ => f_X8_open g.2 (ad8 z 0) (xs (i + 1).toNatClampNeg) μ) (fun μ0 μ1 => k_open (lay6z z) (lay8z z) R _) Int32.toInt64
  refine lv_aload_n hx hb dL_law_1619 rfl (lv_at hl 1 rfl) ?_
  refine lv_aload_n hx hb dL_law_1620 rfl (lv_at hl 0 rfl) ?_
  refine lv_iload hx hb dL_law_1621 (lv_at hl 4 rfl) ?_
  refine lv_iconst (v := 1) hx hb dL_law_1623 nc_iconst_1 ?_
  refine lv_iadd hx hb dL_law_1624 ?_
  refine va_sld hx hb hxs hbl hbA hw.2.2.2.1 hi.2.1 dL_law_1625 ?_
  refine lv_aload_n hx hb dL_law_1626 rfl (lv_at hl 3 rfl) ?_
  refine pw_runH (As := [.ref (ad6 z 0), .int (xs (i + 1).toNatClampNeg), .ref (z + 116)]) (rest := []) hC mh_L_open tw_957 (c_L_open hl0 LM_x q1 q2) ⟨by decide, by decide⟩ hw hX hNC rfl hl.1 (Nat.le_of_ble_eq_true rfl) ⟨Nat.le_trans (Nat.add_le_add_left (by decide) _) hcs.1, Nat.le_trans (Nat.add_le_add_left (by decide) _) hcs.2⟩ rfl dL_law_1627 (fun H locs hw => ?_)
  refine W.widen (k := cells + 8) (n := slots + 48) (Nat.add_le_add_left (by decide) _) (Nat.add_le_add_left (by decide) _) ?_
  refine lv_istore (lv' := [(5, .int (nI code)), (0, .ref b), (1, .ref (ad6 z 0)), (2, .ref (ad8 z 0)), (3, .ref (z + 116)), (4, .int i)]) hx hb dL_law_1630 hl (by decide) rfl (fun ls hl => ?_)
  refine lv_aload_n hx hb dL_law_1632 rfl (lv_at hl 3 rfl) ?_
  refine lv_aload_n hx hb dL_law_1633 rfl (lv_at hl 1 rfl) ?_
  refine lv_iload hx hb dL_law_1634 (lv_at hl 5 rfl) ?_
  refine lv_iconst (v := 1) hx hb dL_law_1636 nc_iconst_1 ?_
  refine lv_iadd hx hb dL_law_1637 ?_
  refine va_sld hx hb hxs hbl hbA hw.2.2.2.1 hi.2.1 dL_law_1638 ?_
  refine pw_goI hw (pw_runV (As := [.int (xs (i + 1).toNatClampNeg)]) (rest := []) hC mm_X8_open tw_1519 (c_X8_open q3 _) ⟨rfl, rfl, by decide, by decide⟩ hw LM_m rfl hl.1 (Nat.le_of_ble_eq_true rfl) ⟨hcs.1, hcs.2⟩ rfl dL_law_1639) (fun H locs hw => ?_)
  refine lv_istore (lv' := [(6, .int v'), (5, .int (nI code)), (0, .ref b), (1, .ref (ad6 z 0)), (2, .ref (ad8 z 0)), (3, .ref (z + 116)), (4, .int i)]) hx hb dL_law_1642 hl (by decide) rfl (fun ls hl => ?_)
  refine lv_aload_n hx hb dL_law_1644 rfl (lv_at hl 4 rfl) ?_
  refine pw_goI hw (pw_runV (As := []) (rest := []) hC mm_X8_thrown tw_994 (c_X8_thrown LM_thrown _) ⟨rfl, rfl, by decide, by decide⟩ hw LM_m rfl hl.1 (Nat.le_of_ble_eq_true rfl) ⟨hcs.1, hcs.2⟩ rfl dL_law_1645) (fun H locs hw => ?_)
  refine lv_iload hx hb dL_law_1648 (lv_at hl 1 rfl) ?_
  refine lv_icmp_eq (tgt := 1655) hx hb dL_law_1650 (by decide) (fun c1 => ?_) (fun c1 => absurd q4 c1)
  refine lv_iload hx hb dL_law_1655 (lv_at hl 1 rfl) ?_
  refine lv_if_ne (tgt := 1672) hx hb dL_law_1657 (by decide) (fun c2 => ?_) (fun c2 => ?_)
  · refine lv_goto (tgt := 1838) hx hb dL_law_1672 (by decide) ?_
    exact kk _ _ _ _ _ _ _ _ _ ls R' (lv_sub hl [2, 3, 4, 5, 6] rfl) hw
  · have hc0 : code = 0 := nI_z (Nat.le_trans q6 (by decide)) c2
    refine lv_aload_n hx hb dL_law_1660 rfl (lv_at hl 5 rfl) ?_
    refine lv_iconst (v := 0) hx hb dL_law_1661 nc_iconst_0 ?_
    refine pw_lald hC hw LM_rd dL_law_1662 ?_
    rw [show (if code = 0 then vp_updL f 0 (Int32.toInt64 v) else f) 0 = Int32.toInt64 v' from by rw [if_pos hc0, ← q5 hc0]; rfl]
    refine lv_iload hx hb dL_law_1663 (lv_at hl 0 rfl) ?_
    refine lv_i2l hx hb dL_law_1665 rfl ?_
    refine W.lcmp hx hb dL_law_1666 ?_
    refine lv_if_eq (tgt := 1672) hx hb dL_law_1667 (by decide) (fun c3 => ?_) (fun c3 => absurd (lg_same rfl) c3)
    refine lv_goto (tgt := 1838) hx hb dL_law_1672 (by decide) ?_
    exact kk _ _ _ _ _ _ _ _ _ ls R' (lv_sub hl [2, 3, 4, 5, 6] rfl) hw
set_option maxRecDepth 100000 in
set_option maxHeartbeats 4000000 in
theorem lc_26 (h : LC p l s m args c A g b N xs) (R : REL J B I Ar) (hi : vi i N) (hl : lv_has ls 8 [(0, .ref b), (1, .ref (ad6 z 0)), (2, .ref (ad8 z 0)), (3, .ref (z + 116)), (4, .int i)]) (hw : PW g (LZ [] z 117) (LM g.2 z μb f J w B I V Ar) A s H locs) (hcs : cells + 8 ≤ room_1.cells ∧ slots + 48 ≤ room_1.slots)
    (kk : ∀ (f' : Nat → Int64) (J' : Nat → Int32) (w' : Nat) (B' : Nat → Nat → Int32) (I' : Nat → Int32) (V' : Nat → Value) (A' : Nat → Nat → Int32) (H1 : Heap) (locs1 : List Loc) (ls1 : Array Slot), REL J' B' I' A' → lv_has ls1 8 [(0, .ref b), (1, .ref (ad6 z 0)), (2, .ref (ad8 z 0)), (3, .ref (z + 116)), (4, .int i)] → PW g (LZ [] z 117) (LM g.2 z μb f' J' w' B' I' V' A') A s H1 locs1 → W p l e room_1 s m args below meth c H1 locs1 (cells + 8) (slots + 48) Q (F0 m 1838 ls1 [])) : W p l e room_1 s m args below meth c H locs cells slots Q (F0 m 1675 ls []) := by
  obtain ⟨hC, hl0, hX, hNC, hxs, hbl, hbA⟩ := h
  have hx := hC.1
  have hb := hC.2.1
  obtain ⟨J', w', B', I', V', A', code, v, v', res, q1, q2, q3, q4, q5, q6, R', -⟩ := lw_G' (μb := μb) (f := f) (fx := fun μ => f_X6_close g.2 (ad6 z 0)  μ) (fy := fun μ => f_X8_close g.2 (ad8 z 0)  μ) (fun μ0 μ1 => k_close (lay6z z) (lay8z z) R ) Int32.toInt64
  refine lv_aload_n hx hb dL_law_1675 rfl (lv_at hl 1 rfl) ?_
  refine lv_aload_n hx hb dL_law_1676 rfl (lv_at hl 3 rfl) ?_
  refine pw_runH (As := [.ref (ad6 z 0), .ref (z + 116)]) (rest := []) hC mh_L_close tw_973 (c_L_close hl0 LM_x q1 q2) ⟨by decide, by decide⟩ hw hX hNC rfl hl.1 (Nat.le_of_ble_eq_true rfl) ⟨Nat.le_trans (Nat.add_le_add_left (by decide) _) hcs.1, Nat.le_trans (Nat.add_le_add_left (by decide) _) hcs.2⟩ rfl dL_law_1677 (fun H locs hw => ?_)
  refine W.widen (k := cells + 8) (n := slots + 48) (Nat.add_le_add_left (by decide) _) (Nat.add_le_add_left (by decide) _) ?_
  refine lv_istore (lv' := [(5, .int (nI code)), (0, .ref b), (1, .ref (ad6 z 0)), (2, .ref (ad8 z 0)), (3, .ref (z + 116)), (4, .int i)]) hx hb dL_law_1680 hl (by decide) rfl (fun ls hl => ?_)
  refine lv_aload_n hx hb dL_law_1682 rfl (lv_at hl 3 rfl) ?_
  refine pw_goI hw (pw_runV (As := []) (rest := []) hC mm_X8_close tw_1527 (c_X8_close q3 _) ⟨rfl, rfl, by decide, by decide⟩ hw LM_m rfl hl.1 (Nat.le_of_ble_eq_true rfl) ⟨hcs.1, hcs.2⟩ rfl dL_law_1683) (fun H locs hw => ?_)
  refine lv_istore (lv' := [(6, .int v'), (5, .int (nI code)), (0, .ref b), (1, .ref (ad6 z 0)), (2, .ref (ad8 z 0)), (3, .ref (z + 116)), (4, .int i)]) hx hb dL_law_1686 hl (by decide) rfl (fun ls hl => ?_)
  refine lv_aload_n hx hb dL_law_1688 rfl (lv_at hl 4 rfl) ?_
  refine pw_goI hw (pw_runV (As := []) (rest := []) hC mm_X8_thrown tw_994 (c_X8_thrown LM_thrown _) ⟨rfl, rfl, by decide, by decide⟩ hw LM_m rfl hl.1 (Nat.le_of_ble_eq_true rfl) ⟨hcs.1, hcs.2⟩ rfl dL_law_1689) (fun H locs hw => ?_)
  refine lv_iload hx hb dL_law_1692 (lv_at hl 1 rfl) ?_
  refine lv_icmp_eq (tgt := 1699) hx hb dL_law_1694 (by decide) (fun c1 => ?_) (fun c1 => absurd q4 c1)
  refine lv_iload hx hb dL_law_1699 (lv_at hl 1 rfl) ?_
  refine lv_if_ne (tgt := 1716) hx hb dL_law_1701 (by decide) (fun c2 => ?_) (fun c2 => ?_)
  · refine lv_goto (tgt := 1838) hx hb dL_law_1716 (by decide) ?_
    exact kk _ _ _ _ _ _ _ _ _ ls R' (lv_sub hl [2, 3, 4, 5, 6] rfl) hw
  · have hc0 : code = 0 := nI_z (Nat.le_trans q6 (by decide)) c2
    refine lv_aload_n hx hb dL_law_1704 rfl (lv_at hl 5 rfl) ?_
    refine lv_iconst (v := 0) hx hb dL_law_1705 nc_iconst_0 ?_
    refine pw_lald hC hw LM_rd dL_law_1706 ?_
    rw [show (if code = 0 then vp_updL f 0 (Int32.toInt64 v) else f) 0 = Int32.toInt64 v' from by rw [if_pos hc0, ← q5 hc0]; rfl]
    refine lv_iload hx hb dL_law_1707 (lv_at hl 0 rfl) ?_
    refine lv_i2l hx hb dL_law_1709 rfl ?_
    refine W.lcmp hx hb dL_law_1710 ?_
    refine lv_if_eq (tgt := 1716) hx hb dL_law_1711 (by decide) (fun c3 => ?_) (fun c3 => absurd (lg_same rfl) c3)
    refine lv_goto (tgt := 1838) hx hb dL_law_1716 (by decide) ?_
    exact kk _ _ _ _ _ _ _ _ _ ls R' (lv_sub hl [2, 3, 4, 5, 6] rfl) hw
set_option maxRecDepth 100000 in
set_option maxHeartbeats 4000000 in
theorem lc_27 (h : LC p l s m args c A g b N xs) (R : REL J B I Ar) (hi : vi i N) (hl : lv_has ls 8 [(0, .ref b), (1, .ref (ad6 z 0)), (2, .ref (ad8 z 0)), (3, .ref (z + 116)), (4, .int i)]) (hw : PW g (LZ [] z 117) (LM g.2 z μb f J w B I V Ar) A s H locs) (hcs : cells + 8 ≤ room_1.cells ∧ slots + 48 ≤ room_1.slots)
    (kk : ∀ (f' : Nat → Int64) (J' : Nat → Int32) (w' : Nat) (B' : Nat → Nat → Int32) (I' : Nat → Int32) (V' : Nat → Value) (A' : Nat → Nat → Int32) (H1 : Heap) (locs1 : List Loc) (ls1 : Array Slot), REL J' B' I' A' → lv_has ls1 8 [(0, .ref b), (1, .ref (ad6 z 0)), (2, .ref (ad8 z 0)), (3, .ref (z + 116)), (4, .int i)] → PW g (LZ [] z 117) (LM g.2 z μb f' J' w' B' I' V' A') A s H1 locs1 → W p l e room_1 s m args below meth c H1 locs1 (cells + 8) (slots + 48) Q (F0 m 1838 ls1 [])) : W p l e room_1 s m args below meth c H locs cells slots Q (F0 m 1719 ls []) := by
  obtain ⟨hC, hl0, hX, hNC, hxs, hbl, hbA⟩ := h
  have hx := hC.1
  have hb := hC.2.1
  obtain ⟨J', w', B', I', V', A', code, v, v', res, q1, q2, q3, q4, q5, q6, R', -⟩ := lw_G' (μb := μb) (f := f) (fx := fun μ => f_X6_lay g.2 (ad6 z 0) (xs (i + 1).toNatClampNeg) μ) (fy := fun μ => f_X8_lay g.2 (ad8 z 0) (xs (i + 1).toNatClampNeg) μ) (fun μ0 μ1 => k_lay (lay6z z) (lay8z z) R _) Int32.toInt64
  refine lv_aload_n hx hb dL_law_1719 rfl (lv_at hl 1 rfl) ?_
  refine lv_aload_n hx hb dL_law_1720 rfl (lv_at hl 0 rfl) ?_
  refine lv_iload hx hb dL_law_1721 (lv_at hl 4 rfl) ?_
  refine lv_iconst (v := 1) hx hb dL_law_1723 nc_iconst_1 ?_
  refine lv_iadd hx hb dL_law_1724 ?_
  refine va_sld hx hb hxs hbl hbA hw.2.2.2.1 hi.2.1 dL_law_1725 ?_
  refine lv_aload_n hx hb dL_law_1726 rfl (lv_at hl 3 rfl) ?_
  refine pw_runH (As := [.ref (ad6 z 0), .int (xs (i + 1).toNatClampNeg), .ref (z + 116)]) (rest := []) hC mh_L_lay tw_985 (c_L_lay hl0 LM_x q1 q2) ⟨by decide, by decide⟩ hw hX hNC rfl hl.1 (Nat.le_of_ble_eq_true rfl) ⟨Nat.le_trans (Nat.add_le_add_left (by decide) _) hcs.1, Nat.le_trans (Nat.add_le_add_left (by decide) _) hcs.2⟩ rfl dL_law_1727 (fun H locs hw => ?_)
  refine W.widen (k := cells + 8) (n := slots + 48) (Nat.add_le_add_left (by decide) _) (Nat.add_le_add_left (by decide) _) ?_
  refine lv_istore (lv' := [(5, .int (nI code)), (0, .ref b), (1, .ref (ad6 z 0)), (2, .ref (ad8 z 0)), (3, .ref (z + 116)), (4, .int i)]) hx hb dL_law_1730 hl (by decide) rfl (fun ls hl => ?_)
  refine lv_aload_n hx hb dL_law_1732 rfl (lv_at hl 3 rfl) ?_
  refine lv_aload_n hx hb dL_law_1733 rfl (lv_at hl 1 rfl) ?_
  refine lv_iload hx hb dL_law_1734 (lv_at hl 5 rfl) ?_
  refine lv_iconst (v := 1) hx hb dL_law_1736 nc_iconst_1 ?_
  refine lv_iadd hx hb dL_law_1737 ?_
  refine va_sld hx hb hxs hbl hbA hw.2.2.2.1 hi.2.1 dL_law_1738 ?_
  refine pw_goI hw (pw_runV (As := [.int (xs (i + 1).toNatClampNeg)]) (rest := []) hC mm_X8_lay tw_1531 (c_X8_lay q3 _) ⟨rfl, rfl, by decide, by decide⟩ hw LM_m rfl hl.1 (Nat.le_of_ble_eq_true rfl) ⟨hcs.1, hcs.2⟩ rfl dL_law_1739) (fun H locs hw => ?_)
  refine lv_istore (lv' := [(6, .int v'), (5, .int (nI code)), (0, .ref b), (1, .ref (ad6 z 0)), (2, .ref (ad8 z 0)), (3, .ref (z + 116)), (4, .int i)]) hx hb dL_law_1742 hl (by decide) rfl (fun ls hl => ?_)
  refine lv_aload_n hx hb dL_law_1744 rfl (lv_at hl 4 rfl) ?_
  refine pw_goI hw (pw_runV (As := []) (rest := []) hC mm_X8_thrown tw_994 (c_X8_thrown LM_thrown _) ⟨rfl, rfl, by decide, by decide⟩ hw LM_m rfl hl.1 (Nat.le_of_ble_eq_true rfl) ⟨hcs.1, hcs.2⟩ rfl dL_law_1745) (fun H locs hw => ?_)
  refine lv_iload hx hb dL_law_1748 (lv_at hl 1 rfl) ?_
  refine lv_icmp_eq (tgt := 1755) hx hb dL_law_1750 (by decide) (fun c1 => ?_) (fun c1 => absurd q4 c1)
  refine lv_iload hx hb dL_law_1755 (lv_at hl 1 rfl) ?_
  refine lv_if_ne (tgt := 1772) hx hb dL_law_1757 (by decide) (fun c2 => ?_) (fun c2 => ?_)
  · refine lv_goto (tgt := 1838) hx hb dL_law_1772 (by decide) ?_
    exact kk _ _ _ _ _ _ _ _ _ ls R' (lv_sub hl [2, 3, 4, 5, 6] rfl) hw
  · have hc0 : code = 0 := nI_z (Nat.le_trans q6 (by decide)) c2
    refine lv_aload_n hx hb dL_law_1760 rfl (lv_at hl 5 rfl) ?_
    refine lv_iconst (v := 0) hx hb dL_law_1761 nc_iconst_0 ?_
    refine pw_lald hC hw LM_rd dL_law_1762 ?_
    rw [show (if code = 0 then vp_updL f 0 (Int32.toInt64 v) else f) 0 = Int32.toInt64 v' from by rw [if_pos hc0, ← q5 hc0]; rfl]
    refine lv_iload hx hb dL_law_1763 (lv_at hl 0 rfl) ?_
    refine lv_i2l hx hb dL_law_1765 rfl ?_
    refine W.lcmp hx hb dL_law_1766 ?_
    refine lv_if_eq (tgt := 1772) hx hb dL_law_1767 (by decide) (fun c3 => ?_) (fun c3 => absurd (lg_same rfl) c3)
    refine lv_goto (tgt := 1838) hx hb dL_law_1772 (by decide) ?_
    exact kk _ _ _ _ _ _ _ _ _ ls R' (lv_sub hl [2, 3, 4, 5, 6] rfl) hw
set_option maxRecDepth 100000 in
set_option maxHeartbeats 4000000 in
theorem lc_28 (h : LC p l s m args c A g b N xs) (R : REL J B I Ar) (hi : vi i N) (hl : lv_has ls 8 [(0, .ref b), (1, .ref (ad6 z 0)), (2, .ref (ad8 z 0)), (3, .ref (z + 116)), (4, .int i)]) (hw : PW g (LZ [] z 117) (LM g.2 z μb f J w B I V Ar) A s H locs) (hcs : cells + 8 ≤ room_1.cells ∧ slots + 48 ≤ room_1.slots)
    (kk : ∀ (f' : Nat → Int64) (J' : Nat → Int32) (w' : Nat) (B' : Nat → Nat → Int32) (I' : Nat → Int32) (V' : Nat → Value) (A' : Nat → Nat → Int32) (H1 : Heap) (locs1 : List Loc) (ls1 : Array Slot), REL J' B' I' A' → lv_has ls1 8 [(0, .ref b), (1, .ref (ad6 z 0)), (2, .ref (ad8 z 0)), (3, .ref (z + 116)), (4, .int i)] → PW g (LZ [] z 117) (LM g.2 z μb f' J' w' B' I' V' A') A s H1 locs1 → W p l e room_1 s m args below meth c H1 locs1 (cells + 8) (slots + 48) Q (F0 m 1838 ls1 [])) : W p l e room_1 s m args below meth c H locs cells slots Q (F0 m 1775 ls []) := by
  obtain ⟨hC, hl0, hX, hNC, hxs, hbl, hbA⟩ := h
  have hx := hC.1
  have hb := hC.2.1
  obtain ⟨J', w', B', I', V', A', v, q1, q2, R'⟩ := lw_Z' (μb := μb) (f := f) (fx := fun μ => f_X6_sheet g.2 (ad6 z 0) (xs (i + 1).toNatClampNeg) μ) (fy := fun μ => f_X8_sheet g.2 (ad8 z 0) (xs (i + 1).toNatClampNeg) μ) (fun μ0 μ1 => k_sheet (lay6z z) (lay8z z) R _)
  refine lv_aload_n hx hb dL_law_1775 rfl (lv_at hl 1 rfl) ?_
  refine lv_aload_n hx hb dL_law_1776 rfl (lv_at hl 0 rfl) ?_
  refine lv_iload hx hb dL_law_1777 (lv_at hl 4 rfl) ?_
  refine lv_iconst (v := 1) hx hb dL_law_1779 nc_iconst_1 ?_
  refine lv_iadd hx hb dL_law_1780 ?_
  refine va_sld hx hb hxs hbl hbA hw.2.2.2.1 hi.2.1 dL_law_1781 ?_
  refine pw_goI hw (pw_runV (As := [.int (xs (i + 1).toNatClampNeg)]) (rest := []) hC mm_X6_sheet tw_521 (c_X6_sheet q1 _) ⟨rfl, rfl, by decide, by decide⟩ hw LM_x rfl hl.1 (Nat.le_of_ble_eq_true rfl) ⟨Nat.le_trans (Nat.le_add_right _ _) hcs.1, Nat.le_trans (Nat.le_add_right _ _) hcs.2⟩ rfl dL_law_1782) (fun H locs hw => ?_)
  refine lv_aload_n hx hb dL_law_1785 rfl (lv_at hl 2 rfl) ?_
  refine lv_aload_n hx hb dL_law_1786 rfl (lv_at hl 0 rfl) ?_
  refine lv_iload hx hb dL_law_1787 (lv_at hl 4 rfl) ?_
  refine lv_iconst (v := 1) hx hb dL_law_1789 nc_iconst_1 ?_
  refine lv_iadd hx hb dL_law_1790 ?_
  refine va_sld hx hb hxs hbl hbA hw.2.2.2.1 hi.2.1 dL_law_1791 ?_
  refine pw_goI hw (pw_runV (As := [.int (xs (i + 1).toNatClampNeg)]) (rest := [.int v]) hC mm_X8_sheet tw_1535 (c_X8_sheet q2 _) ⟨rfl, rfl, by decide, by decide⟩ hw LM_m rfl hl.1 (Nat.le_of_ble_eq_true rfl) ⟨Nat.le_trans (Nat.le_add_right _ _) hcs.1, Nat.le_trans (Nat.le_add_right _ _) hcs.2⟩ rfl dL_law_1792) (fun H locs hw => ?_)
  refine lv_icmp_eq (tgt := 1838) hx hb dL_law_1795 (by decide) (fun c1 => ?_) (fun c1 => absurd rfl c1)
  refine W.widen (k := cells + 8) (n := slots + 48) (Nat.le_add_right _ _) (Nat.le_add_right _ _) ?_
  exact kk _ _ _ _ _ _ _ _ _ ls R' (lv_sub hl [0, 1, 2, 3, 4] rfl) hw
set_option maxRecDepth 100000 in
set_option maxHeartbeats 4000000 in
theorem lc_29 (h : LC p l s m args c A g b N xs) (R : REL J B I Ar) (hi : vi i N) (hl : lv_has ls 8 [(0, .ref b), (1, .ref (ad6 z 0)), (2, .ref (ad8 z 0)), (3, .ref (z + 116)), (4, .int i)]) (hw : PW g (LZ [] z 117) (LM g.2 z μb f J w B I V Ar) A s H locs) (hcs : cells + 8 ≤ room_1.cells ∧ slots + 48 ≤ room_1.slots)
    (kk : ∀ (f' : Nat → Int64) (J' : Nat → Int32) (w' : Nat) (B' : Nat → Nat → Int32) (I' : Nat → Int32) (V' : Nat → Value) (A' : Nat → Nat → Int32) (H1 : Heap) (locs1 : List Loc) (ls1 : Array Slot), REL J' B' I' A' → lv_has ls1 8 [(0, .ref b), (1, .ref (ad6 z 0)), (2, .ref (ad8 z 0)), (3, .ref (z + 116)), (4, .int i)] → PW g (LZ [] z 117) (LM g.2 z μb f' J' w' B' I' V' A') A s H1 locs1 → W p l e room_1 s m args below meth c H1 locs1 (cells + 8) (slots + 48) Q (F0 m 1838 ls1 [])) : W p l e room_1 s m args below meth c H locs cells slots Q (F0 m 1800 ls []) := by
  obtain ⟨hC, hl0, hX, hNC, hxs, hbl, hbA⟩ := h
  have hx := hC.1
  have hb := hC.2.1
  obtain ⟨J', w', B', I', V', A', v, q1, q2, R'⟩ := lw_Z' (μb := μb) (f := f) (fx := fun μ => f_X6_sheetAt g.2 (ad6 z 0) (xs (i + 1).toNatClampNeg) μ) (fy := fun μ => f_X8_sheetAt g.2 (ad8 z 0) (xs (i + 1).toNatClampNeg) μ) (fun μ0 μ1 => k_sheetAt (lay6z z) (lay8z z) R _)
  refine lv_aload_n hx hb dL_law_1800 rfl (lv_at hl 1 rfl) ?_
  refine lv_aload_n hx hb dL_law_1801 rfl (lv_at hl 0 rfl) ?_
  refine lv_iload hx hb dL_law_1802 (lv_at hl 4 rfl) ?_
  refine lv_iconst (v := 1) hx hb dL_law_1804 nc_iconst_1 ?_
  refine lv_iadd hx hb dL_law_1805 ?_
  refine va_sld hx hb hxs hbl hbA hw.2.2.2.1 hi.2.1 dL_law_1806 ?_
  refine pw_goI hw (pw_runV (As := [.int (xs (i + 1).toNatClampNeg)]) (rest := []) hC mm_X6_sheetAt tw_533 (c_X6_sheetAt q1 _) ⟨rfl, rfl, by decide, by decide⟩ hw LM_x rfl hl.1 (Nat.le_of_ble_eq_true rfl) ⟨Nat.le_trans (Nat.le_add_right _ _) hcs.1, Nat.le_trans (Nat.le_add_right _ _) hcs.2⟩ rfl dL_law_1807) (fun H locs hw => ?_)
  refine lv_aload_n hx hb dL_law_1810 rfl (lv_at hl 2 rfl) ?_
  refine lv_aload_n hx hb dL_law_1811 rfl (lv_at hl 0 rfl) ?_
  refine lv_iload hx hb dL_law_1812 (lv_at hl 4 rfl) ?_
  refine lv_iconst (v := 1) hx hb dL_law_1814 nc_iconst_1 ?_
  refine lv_iadd hx hb dL_law_1815 ?_
  refine va_sld hx hb hxs hbl hbA hw.2.2.2.1 hi.2.1 dL_law_1816 ?_
  refine pw_goI hw (pw_runV (As := [.int (xs (i + 1).toNatClampNeg)]) (rest := [.int v]) hC mm_X8_sheetAt tw_1539 (c_X8_sheetAt q2 _) ⟨rfl, rfl, by decide, by decide⟩ hw LM_m rfl hl.1 (Nat.le_of_ble_eq_true rfl) ⟨Nat.le_trans (Nat.le_add_right _ _) hcs.1, Nat.le_trans (Nat.le_add_right _ _) hcs.2⟩ rfl dL_law_1817) (fun H locs hw => ?_)
  refine lv_icmp_eq (tgt := 1838) hx hb dL_law_1820 (by decide) (fun c1 => ?_) (fun c1 => absurd rfl c1)
  refine W.widen (k := cells + 8) (n := slots + 48) (Nat.le_add_right _ _) (Nat.le_add_right _ _) ?_
  exact kk _ _ _ _ _ _ _ _ _ ls R' (lv_sub hl [0, 1, 2, 3, 4] rfl) hw
set_option maxRecDepth 100000 in
set_option maxHeartbeats 4000000 in
theorem lc_30 (h : LC p l s m args c A g b N xs) (R : REL J B I Ar) (hi : vi i N) (hl : lv_has ls 8 [(0, .ref b), (1, .ref (ad6 z 0)), (2, .ref (ad8 z 0)), (3, .ref (z + 116)), (4, .int i)]) (hw : PW g (LZ [] z 117) (LM g.2 z μb f J w B I V Ar) A s H locs) (hcs : cells + 8 ≤ room_1.cells ∧ slots + 48 ≤ room_1.slots)
    (kk : ∀ (f' : Nat → Int64) (J' : Nat → Int32) (w' : Nat) (B' : Nat → Nat → Int32) (I' : Nat → Int32) (V' : Nat → Value) (A' : Nat → Nat → Int32) (H1 : Heap) (locs1 : List Loc) (ls1 : Array Slot), REL J' B' I' A' → lv_has ls1 8 [(0, .ref b), (1, .ref (ad6 z 0)), (2, .ref (ad8 z 0)), (3, .ref (z + 116)), (4, .int i)] → PW g (LZ [] z 117) (LM g.2 z μb f' J' w' B' I' V' A') A s H1 locs1 → W p l e room_1 s m args below meth c H1 locs1 (cells + 8) (slots + 48) Q (F0 m 1838 ls1 [])) : W p l e room_1 s m args below meth c H locs cells slots Q (F0 m 1825 ls []) := by
  obtain ⟨hC, hl0, hX, hNC, hxs, hbl, hbA⟩ := h
  have hx := hC.1
  have hb := hC.2.1
  obtain ⟨J', w', B', I', V', A', v, q1, q2, R'⟩ := lw_Z' (μb := μb) (f := f) (fx := fun μ => f_X6_taped g.2 (ad6 z 0)  μ) (fy := fun μ => f_X8_taped g.2 (ad8 z 0)  μ) (fun μ0 μ1 => k_taped (lay6z z) (lay8z z) R )
  refine lv_aload_n hx hb dL_law_1825 rfl (lv_at hl 1 rfl) ?_
  refine pw_goI hw (pw_runV (As := []) (rest := []) hC mm_X6_taped tw_538 (c_X6_taped q1 _) ⟨rfl, rfl, by decide, by decide⟩ hw LM_x rfl hl.1 (Nat.le_of_ble_eq_true rfl) ⟨Nat.le_trans (Nat.le_add_right _ _) hcs.1, Nat.le_trans (Nat.le_add_right _ _) hcs.2⟩ rfl dL_law_1826) (fun H locs hw => ?_)
  refine lv_aload_n hx hb dL_law_1829 rfl (lv_at hl 2 rfl) ?_
  refine pw_goI hw (pw_runV (As := []) (rest := [.int v]) hC mm_X8_taped tw_1217 (c_X8_taped q2 _) ⟨rfl, rfl, by decide, by decide⟩ hw LM_m rfl hl.1 (Nat.le_of_ble_eq_true rfl) ⟨Nat.le_trans (Nat.le_add_right _ _) hcs.1, Nat.le_trans (Nat.le_add_right _ _) hcs.2⟩ rfl dL_law_1830) (fun H locs hw => ?_)
  refine lv_icmp_eq (tgt := 1838) hx hb dL_law_1833 (by decide) (fun c1 => ?_) (fun c1 => absurd rfl c1)
  refine W.widen (k := cells + 8) (n := slots + 48) (Nat.le_add_right _ _) (Nat.le_add_right _ _) ?_
  exact kk _ _ _ _ _ _ _ _ _ ls R' (lv_sub hl [0, 1, 2, 3, 4] rfl) hw
end LCASES
