/-! PURE ROWS: what the functions answer on a memory that holds the objects. First: reads, writes, spans. -/
section PU1
variable {cy : Nat → ClassId} {μ : Mem} {a c cap n ci k t : Nat} {h : Nat → Int32} {o : Int32}
theorem rdI_mk {fs : List Value} {v : Int32} (hm : μ a = .inr (ci, fs)) (hv : fs[k]? = some (.int v)) : rdI μ a ci k = some v := by
  unfold rdI rdF
  rw [hm]
  simp [hv]
theorem rdR_mk {fs : List Value} {v : Nat} (hm : μ a = .inr (ci, fs)) (hv : fs[k]? = some (.ref v)) : rdR μ a ci k = some v := by
  unfold rdR rdF
  rw [hm]
  simp [hv]
theorem isO_mk {fs : List Value} (hm : μ a = .inr (ci, fs)) : isO μ a ci = true := by
  unfold isO
  rw [hm]
  simp
theorem wrF_mk {fs : List Value} {v : Value} (hm : μ a = .inr (ci, fs)) (hk : k < fs.length) : wrF μ a ci k v = some (va_up μ a (.inr (ci, fs.set k v))) := by
  unfold wrF
  rw [hm]
  simp [hk]
theorem nI_inr {j N : Nat} (hj : j < N) (hN : N < 2 ^ 31) : ¬ (nI j < 0 ∨ N ≤ (nI j).toNatClampNeg) := vp_in_nI hj hN
theorem rdA_mk {N j : Nat} {f : Nat → Int32} (hm : μ a = .inl (cy t, N, .inl f)) (hj : j < N) (hN : N < 2 ^ 31) : rdA cy μ t a (nI j) = some (f j) := by
  unfold rdA
  rw [hm]
  have h1 := nI_inr hj hN
  have h2 : (nI j).toNatClampNeg = j := nI_clamp (by omega)
  show (if cy t = cy t ∧ ¬ (nI j < 0 ∨ N ≤ (nI j).toNatClampNeg) then some (f (nI j).toNatClampNeg) else none) = some (f j)
  rw [if_pos ⟨rfl, h1⟩, h2]
theorem wrA_mk {N j : Nat} {f : Nat → Int32} {x : Int32} (hm : μ a = .inl (cy t, N, .inl f)) (hj : j < N) (hN : N < 2 ^ 31) : wrA cy μ t a (nI j) x = some (va_up μ a (.inl (cy t, N, .inl (upd f j x)))) := by
  unfold wrA
  rw [hm]
  have h1 := nI_inr hj hN
  have h2 : (nI j).toNatClampNeg = j := nI_clamp (by omega)
  show (if cy t = cy t ∧ ¬ (nI j < 0 ∨ N ≤ (nI j).toNatClampNeg) then some (va_up μ a (.inl (cy t, N, .inl (upd f (nI j).toNatClampNeg x)))) else none) = _
  rw [if_pos ⟨rfl, h1⟩, h2]
theorem lnA_mk {N : Nat} {x : (Nat → Int32) ⊕ (Nat → Int64) ⊕ (Nat → UInt32) ⊕ (Nat → UInt64) ⊕ (Nat → Option Nat)} (hm : μ a = .inl (cy t, N, x)) : lnA cy μ t a = some (nI N) := by
  unfold lnA
  rw [hm]
  simp [nI]
/-- a span: its object a, its cells c (room for cap), n of them in use, what they hold -/
def SP (cy : Nat → ClassId) (μ : Mem) (a c cap n : Nat) (h : Nat → Int32) (o : Int32) : Prop :=
  μ a = .inr (4, [.ref c, .int (nI n), .int o]) ∧ μ c = .inl (cy 1, cap, .inl h) ∧ n ≤ cap ∧ cap ≤ 20000
/-- nothing else has changed -/
def Fr (S : List Nat) (μ μ' : Mem) : Prop := ∀ q, q ∉ S → μ' q = μ q
theorem Fr.rf {S : List Nat} {μ : Mem} : Fr S μ μ := fun _ _ => rfl
theorem Fr.trans {S : List Nat} {μ μ1 μ2 : Mem} (h1 : Fr S μ μ1) (h2 : Fr S μ1 μ2) : Fr S μ μ2 := fun q hq => (h2 q hq).trans (h1 q hq)
theorem Fr.mono {S S' : List Nat} {μ μ1 : Mem} (h1 : Fr S μ μ1) (hs : ∀ q, q ∈ S → q ∈ S') : Fr S' μ μ1 := fun q hq => h1 q (fun z => hq (hs q z))
theorem Fr.up {S : List Nat} {μ : Mem} {a : Nat} {E : va_E} (ha : a ∈ S) : Fr S μ (va_up μ a E) := fun q hq => va_up_ne _ _ (fun e => hq (e ▸ ha))
theorem SP.ac (S : SP cy μ a c cap n h o) : a ≠ c := fun e => by
  have h1 := S.1
  rw [e, S.2.1] at h1
  cases h1
theorem SP.fr {L : List Nat} {μ' : Mem} (S : SP cy μ a c cap n h o) (F : Fr L μ μ') (ha : a ∉ L) (hc : c ∉ L) : SP cy μ' a c cap n h o := ⟨(F a ha).trans S.1, (F c hc).trans S.2.1, S.2.2⟩
theorem s_size (S : SP cy μ a c cap n h o) : rdI μ a 4 1 = some (nI n) := rdI_mk S.1 rfl
theorem s_cells (S : SP cy μ a c cap n h o) : rdR μ a 4 0 = some c := rdR_mk S.1 rfl
theorem s_is (S : SP cy μ a c cap n h o) : isO μ a 4 = true := isO_mk S.1
theorem s_rd (S : SP cy μ a c cap n h o) {j : Nat} (hj : j < cap) : rdA cy μ 1 c (nI j) = some (h j) := rdA_mk S.2.1 hj (by have := S.2.2.2; omega)
theorem s_at (S : SP cy μ a c cap n h o) {j : Nat} (hj : j < n) : f_X5_at cy a (nI j) μ = some (h j, μ) := by
  have h1 := S.2.2.1
  have h2 := S.2.2.2
  unfold f_X5_at
  rw [if_neg (nI_pos (by omega)), s_size S]
  show (if nI n ≤ nI j then _ else _) = _
  rw [if_neg (nI_ge hj (by omega)), s_cells S]
  show (rdA cy μ 1 c (nI j)).bind _ = _
  rw [s_rd S (by omega)]
  rfl
theorem s_at0 (S : SP cy μ a c cap n h o) {i : Int32} (hi : i < 0 ∨ nI n ≤ i) : f_X5_at cy a i μ = some (0, μ) := by
  unfold f_X5_at f_X5_at_L21
  by_cases h1 : i < 0
  · rw [if_pos h1]
  · rw [if_neg h1, s_size S]
    show (if nI n ≤ i then _ else _) = _
    rw [if_pos (hi.resolve_left h1)]
/-- the int at j, of bytes lowest first -/
def i4 (h : Nat → Int32) (j : Nat) : Int32 := ((h j ||| (h (j + 1) <<< ((8 : Int32) &&& 31))) ||| (h (j + 2) <<< ((16 : Int32) &&& 31))) ||| (h (j + 3) <<< ((24 : Int32) &&& 31))
theorem nI_p (a b : Nat) : nI a + nI b = nI (a + b) := nI_add a b
theorem nI_c (m : Nat) (x : Int32) (hx : x = nI m) (a : Nat) : nI a + x = nI (a + m) := by rw [hx]; exact nI_add a m
theorem nI_a1 (a : Nat) : nI a + 1 = nI (a + 1) := nI_c 1 1 (by decide +kernel) a
theorem nI_a2 (a : Nat) : nI a + 2 = nI (a + 2) := nI_c 2 2 (by decide +kernel) a
theorem nI_a3 (a : Nat) : nI a + 3 = nI (a + 3) := nI_c 3 3 (by decide +kernel) a
theorem nI_a4 (a : Nat) : nI a + 4 = nI (a + 4) := nI_c 4 4 (by decide +kernel) a
theorem nI_a5 (a : Nat) : nI a + 5 = nI (a + 5) := nI_c 5 5 (by decide +kernel) a
theorem s_intAt (S : SP cy μ a c cap n h o) {j : Nat} (hj : j + 4 ≤ n) : f_X5_intAt cy a (nI j) μ = some (i4 h j, μ) := by
  unfold f_X5_intAt
  rw [if_pos (s_is S), s_at S (by omega)]
  show (if isO μ a 4 = true then _ else none) = _
  rw [if_pos (s_is S), nI_a1, s_at S (by omega)]
  show (if isO μ a 4 = true then _ else none) = _
  rw [if_pos (s_is S), nI_a2, s_at S (by omega)]
  show (if isO μ a 4 = true then _ else none) = _
  rw [if_pos (s_is S), nI_a3, s_at S (by omega)]
  rfl
def i8 (h : Nat → Int32) (j : Nat) : Int64 := ((Int32.toInt64 (i4 h j)) &&& (4294967295 : Int64)) ||| ((Int32.toInt64 (i4 h (j + 4))) <<< (Int32.toInt64 32 &&& 63))
theorem s_longAt (S : SP cy μ a c cap n h o) {j : Nat} (hj : j + 8 ≤ n) : f_X5_longAt cy a (nI j) μ = some (i8 h j, μ) := by
  unfold f_X5_longAt
  rw [if_pos (s_is S), s_intAt S (by omega)]
  show (if isO μ a 4 = true then _ else none) = _
  rw [if_pos (s_is S), nI_a4, s_intAt S (by omega)]
  rfl
/-- the first 0 in p .. p + k - 1 -/
def zf (h : Nat → Int32) : Nat → Nat → Option Nat
  | _, 0 => none
  | p, k + 1 => if h p = 0 then some p else zf h (p + 1) k
def zfI (r : Option Nat) : Int32 := match r with
  | some z => nI z
  | none => -1
theorem zf_some {h : Nat → Int32} : ∀ {k p z : Nat}, zf h p k = some z → p ≤ z ∧ z < p + k ∧ h z = 0 ∧ ∀ j, p ≤ j → j < z → h j ≠ 0
  | 0, p, z, e => by cases e
  | k + 1, p, z, e => by
    unfold zf at e
    by_cases h0 : h p = 0
    · rw [if_pos h0] at e
      cases e
      exact ⟨Nat.le_refl _, by omega, h0, fun j h1 h2 => by omega⟩
    · rw [if_neg h0] at e
      obtain ⟨h1, h2, h3, h4⟩ := zf_some e
      refine ⟨by omega, by omega, h3, fun j h5 h6 => ?_⟩
      by_cases hj : j = p
      · rw [hj]; exact h0
      · exact h4 j (by omega) h6
theorem zf_none {h : Nat → Int32} : ∀ {k p : Nat}, zf h p k = none → ∀ j, p ≤ j → j < p + k → h j ≠ 0
  | 0, p, _ => fun j h1 h2 => by omega
  | k + 1, p, e => by
    unfold zf at e
    by_cases h0 : h p = 0
    · rw [if_pos h0] at e; cases e
    · rw [if_neg h0] at e
      intro j h5 h6
      by_cases hj : j = p
      · rw [hj]; exact h0
      · exact zf_none e j (by omega) (by omega)
theorem s_zeroFrom_L (S : SP cy μ a c cap n h o) : ∀ (k p f : Nat), p + k ≤ n → k < f → f_X5_zeroFrom_L2 cy f a (nI (p + k)) (nI p) μ = some (zfI (zf h p k), μ)
  | k, p, 0, _, hf => by omega
  | 0, p, f + 1, hp, _ => by
    unfold f_X5_zeroFrom_L2 zf
    rw [Nat.add_zero, if_pos (nI_le (Nat.le_refl p) (by have := S.2.2; omega))]
    rfl
  | k + 1, p, f + 1, hp, hf => by
    have h1 := S.2.2.1
    have h2 := S.2.2.2
    unfold f_X5_zeroFrom_L2 zf
    rw [if_neg (nI_ge (by omega) (by omega)), if_neg (nI_pos (by omega)), s_size S]
    show (if nI n ≤ nI p then _ else _) = _
    rw [if_neg (nI_ge (by omega) (by omega)), s_cells S]
    show (rdA cy μ 1 c (nI p)).bind _ = _
    rw [s_rd S (by omega)]
    show (if h p = 0 then _ else _) = _
    by_cases h0 : h p = 0
    · rw [if_pos h0, if_pos h0]
      rfl
    · rw [if_neg h0, if_neg h0]
      unfold f_X5_zeroFrom_L30
      rw [nI_a1]
      have := s_zeroFrom_L S k (p + 1) f (by omega) (by omega)
      rw [show p + 1 + k = p + (k + 1) by omega] at this
      exact this
theorem s_zeroFrom (S : SP cy μ a c cap n h o) {p w : Nat} (hp : p ≤ w) (hw : w ≤ n) : f_X5_zeroFrom cy a (nI p) (nI w) μ = some (zfI (zf h p (w - p)), μ) := by
  unfold f_X5_zeroFrom
  have h1 := S.2.2
  have := s_zeroFrom_L S (w - p) p FU (by omega) (by show w - p < 100000; omega)
  rw [show p + (w - p) = w by omega] at this
  exact this
theorem zfI_m1 {r : Option Nat} (hr : ∀ z, r = some z → z < 2 ^ 30) : zfI r = -1 ↔ r = none := by
  cases r with
  | none => exact ⟨fun _ => rfl, fun _ => rfl⟩
  | some z =>
    refine ⟨fun e => ?_, fun e => by cases e⟩
    have h1 := nI_toInt (n := z) (by have := hr z rfl; omega)
    have e2 : nI z = -1 := e
    rw [e2] at h1
    have h3 : (-1 : Int32).toInt = -1 := by decide +kernel
    omega
/-- the place behind a name -/
def bn (h : Nat → Int32) (n p : Nat) : Nat := match zf h p (n - p) with
  | some z => z + 1
  | none => n
theorem s_behindName (S : SP cy μ a c cap n h o) {p : Nat} (hp : p ≤ n) : f_X5_behindName cy a (nI p) μ = some (nI (bn h n p), μ) := by
  unfold f_X5_behindName bn
  have h1 := S.2.2
  rw [s_size S]
  show (if isO μ a 4 = true then _ else none) = _
  rw [if_pos (s_is S), s_zeroFrom S hp (Nat.le_refl n)]
  show (if zfI (zf h p (n - p)) = -1 then _ else _) = _
  cases e : zf h p (n - p) with
  | none =>
    rw [if_pos (show zfI none = -1 from rfl)]
    show (rdI μ a 4 1).bind _ = _
    rw [s_size S]
    rfl
  | some z =>
    have hz := zf_some e
    rw [if_neg (fun q => by have := (zfI_m1 (r := some z) (fun y hy => by cases hy; omega)).mp q; cases this)]
    show some (nI z + 1, μ) = _
    rw [nI_a1]
/-- one byte more -/
theorem s_append (S : SP cy μ a c cap n h o) (hn : n < cap) (x : Int32) : ∃ μ', f_X5_append cy a x μ = some μ' ∧ SP cy μ' a c cap (n + 1) (upd h n (x &&& 255)) o ∧ Fr [a, c] μ μ' := by
  have h1 := S.2.2.2
  have hac := S.ac
  unfold f_X5_append
  rw [s_size S, s_cells S]
  show ∃ μ', (lnA cy μ 1 c).bind _ = _ ∧ _
  rw [lnA_mk S.2.1]
  show ∃ μ', (if nI n < nI cap then _ else _) = _ ∧ _
  rw [if_pos (nI_lt hn (by omega))]
  show ∃ μ', (wrA cy μ 1 c (nI n) (x &&& 255)).bind _ = _ ∧ _
  rw [wrA_mk S.2.1 hn (by omega)]
  have hm : va_up μ c (.inl (cy 1, cap, .inl (upd h n (x &&& 255)))) a = .inr (4, [.ref c, .int (nI n), .int o]) := (va_up_ne _ _ hac).trans S.1
  show ∃ μ', (rdI (va_up μ c (.inl (cy 1, cap, .inl (upd h n (x &&& 255))))) a 4 1).bind _ = _ ∧ _
  rw [rdI_mk hm rfl]
  show ∃ μ', (wrF (va_up μ c (.inl (cy 1, cap, .inl (upd h n (x &&& 255))))) a 4 1 (.int (nI n + 1))).bind _ = _ ∧ _
  rw [wrF_mk hm (Nat.le_of_ble_eq_true rfl), nI_a1]
  refine ⟨_, rfl, ⟨va_up_self _ _ _, ?_, hn, h1⟩, ?_⟩
  · rw [va_up_ne _ _ (Ne.symm hac), va_up_self]
  · exact (Fr.up (by simp)).trans (Fr.up (by simp))
/-- no room: it is over -/
theorem s_appendO (S : SP cy μ a c cap n h o) (hn : n = cap) (x : Int32) : ∃ μ', f_X5_append cy a x μ = some μ' ∧ SP cy μ' a c cap n h 1 ∧ Fr [a, c] μ μ' := by
  have h1 := S.2.2.2
  have hac := S.ac
  unfold f_X5_append
  rw [s_size S, s_cells S]
  show ∃ μ', (lnA cy μ 1 c).bind _ = _ ∧ _
  rw [lnA_mk S.2.1]
  show ∃ μ', (if nI n < nI cap then _ else _) = _ ∧ _
  rw [if_neg (nI_nlt (by omega) (by omega)), wrF_mk S.1 (Nat.le_of_ble_eq_true rfl)]
  refine ⟨_, rfl, ⟨va_up_self _ _ _, ?_, by omega, h1⟩, Fr.up (by simp)⟩
  rw [va_up_ne _ _ (Ne.symm hac)]
  exact S.2.1
theorem s_clear (S : SP cy μ a c cap n h o) : ∃ μ', f_X5_clear cy a μ = some μ' ∧ SP cy μ' a c cap 0 h 0 ∧ Fr [a] μ μ' := by
  have hac := S.ac
  unfold f_X5_clear
  rw [wrF_mk S.1 (Nat.le_of_ble_eq_true rfl)]
  show ∃ μ', (wrF (va_up μ a (.inr (4, [.ref c, .int 0, .int o]))) a 4 2 (.int 0)).bind _ = _ ∧ _
  rw [wrF_mk (va_up_self _ _ _) (Nat.le_of_ble_eq_true rfl)]
  refine ⟨_, rfl, ⟨va_up_self _ _ _, ?_, Nat.zero_le _, S.2.2.2⟩, (Fr.up (by simp)).trans (Fr.up (by simp))⟩
  rw [va_up_ne _ _ (Ne.symm hac), va_up_ne _ _ (Ne.symm hac)]
  exact S.2.1
theorem nI_sub' {x y : Nat} (hy : y ≤ x) : nI x - nI y = nI (x - y) := pk_sub hy
/-- a part of another span comes behind, if there is room -/
theorem s_appendPart {a1 c1 cap1 n1 : Nat} {h1 : Nat → Int32} {o1 : Int32} (S : SP cy μ a c cap n h o) (S1 : SP cy μ a1 c1 cap1 n1 h1 o1) (hne : a ≠ a1 ∧ c ≠ c1) {p q : Nat} (hpq : p ≤ q) (hq : q ≤ n1) (hroom : n + (q - p) ≤ cap) :
    ∃ μ', f_X5_appendPart cy a a1 (nI p) (nI q) μ = some μ' ∧ SP cy μ' a c cap (n + (q - p)) (va_cpy h1 h p n (q - p)) o ∧ Fr [a, c] μ μ' := by
  have b1 := S.2.2.2
  have b2 := S1.2.2
  have b3 := S.2.2.1
  have hac := S.ac
  unfold f_X5_appendPart
  rw [if_neg (nI_pos (by omega)), s_size S1]
  show ∃ μ', (if nI n1 < nI q then _ else _) = _ ∧ _
  rw [if_neg (nI_nlt hq (by omega)), if_pos (nI_le hpq (by omega)), s_cells S]
  show ∃ μ', (lnA cy μ 1 c).bind _ = _ ∧ _
  rw [lnA_mk S.2.1, s_size S]
  show ∃ μ', (if nI q - nI p ≤ nI cap - nI n then _ else _) = _ ∧ _
  rw [nI_sub' hpq, nI_sub' b3, if_pos (nI_le (by omega) (by omega)), s_cells S1]
  have hcp : cpA cy μ c1 (nI p) c (nI n) (nI (q - p)) = some (va_up μ c (.inl (cy 1, cap, .inl (va_cpy h1 h p n (q - p))))) := by
    unfold cpA
    rw [S1.2.1, S.2.1]
    have e1 : (nI p).toNatClampNeg = p := nI_clamp (by omega)
    have e2 : (nI n).toNatClampNeg = n := nI_clamp (by omega)
    have e3 : (nI (q - p)).toNatClampNeg = q - p := nI_clamp (by omega)
    show (if cy 1 = cy 1 ∧ cy 1 = cy 1 ∧ ¬ nI p < 0 ∧ ¬ nI n < 0 ∧ ¬ nI (q - p) < 0 ∧ (nI p).toNatClampNeg + (nI (q - p)).toNatClampNeg ≤ cap1 ∧ (nI n).toNatClampNeg + (nI (q - p)).toNatClampNeg ≤ cap then some (va_up μ c (.inl (cy 1, cap, .inl (va_cpy h1 h (nI p).toNatClampNeg (nI n).toNatClampNeg (nI (q - p)).toNatClampNeg)))) else none) = _
    rw [e1, e2, e3, if_pos ⟨rfl, rfl, nI_pos (by omega), nI_pos (by omega), nI_pos (by omega), by omega, hroom⟩]
  show ∃ μ', (cpA cy μ c1 (nI p) c (nI n) (nI (q - p))).bind _ = _ ∧ _
  rw [hcp]
  have hm : va_up μ c (.inl (cy 1, cap, .inl (va_cpy h1 h p n (q - p)))) a = .inr (4, [.ref c, .int (nI n), .int o]) := (va_up_ne _ _ hac).trans S.1
  show ∃ μ', (rdI (va_up μ c (.inl (cy 1, cap, .inl (va_cpy h1 h p n (q - p))))) a 4 1).bind _ = _ ∧ _
  rw [rdI_mk hm rfl]
  show ∃ μ', (wrF (va_up μ c (.inl (cy 1, cap, .inl (va_cpy h1 h p n (q - p))))) a 4 1 (.int (nI n + nI (q - p)))).bind _ = _ ∧ _
  rw [wrF_mk hm (Nat.le_of_ble_eq_true rfl), nI_p]
  refine ⟨_, rfl, ⟨va_up_self _ _ _, ?_, by omega, b1⟩, ?_⟩
  · rw [va_up_ne _ _ (Ne.symm hac), va_up_self]
  · exact (Fr.up (by simp)).trans (Fr.up (by simp))
end PU1
