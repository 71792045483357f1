/-! ===== Int32 by its bits: bt x i ===== -/
def bt (x : Int32) (i : Nat) : Bool := x.toBitVec.getLsbD i
theorem b_ext {x y : Int32} (h : ∀ i, i < 32 → bt x i = bt y i) : x = y := Int32.toBitVec_inj.mp (BitVec.eq_of_getLsbD_eq (fun i hi => h i hi))
theorem b_or (x y : Int32) (i : Nat) : bt (x ||| y) i = (bt x i || bt y i) := by unfold bt; rw [Int32.toBitVec_or, BitVec.getLsbD_or]
theorem b_and (x y : Int32) (i : Nat) : bt (x &&& y) i = (bt x i && bt y i) := by unfold bt; rw [Int32.toBitVec_and, BitVec.getLsbD_and]
theorem b_xor (x y : Int32) (i : Nat) : bt (x ^^^ y) i = (bt x i ^^ bt y i) := by unfold bt; rw [Int32.toBitVec_xor, BitVec.getLsbD_xor]
theorem b_big {x : Int32} {i : Nat} (h : 32 ≤ i) : bt x i = false := BitVec.getLsbD_of_ge _ _ h
theorem b_255 (i : Nat) : bt 255 i = decide (i < 8) := by
  rcases Nat.lt_or_ge i 32 with h | h
  · exact (by decide +kernel : ∀ i, i < 32 → bt 255 i = decide (i < 8)) i h
  · rw [b_big h, decide_eq_false (by omega)]
theorem b_65535 (i : Nat) : bt 65535 i = decide (i < 16) := by
  rcases Nat.lt_or_ge i 32 with h | h
  · exact (by decide +kernel : ∀ i, i < 32 → bt 65535 i = decide (i < 16)) i h
  · rw [b_big h, decide_eq_false (by omega)]
theorem b_m1 : ∀ i, i < 32 → bt (-1) i = true := by decide +kernel
theorem b_0 (i : Nat) : bt 0 i = false := BitVec.getLsbD_zero
theorem s_l : ∀ n, n < 32 → ((nI n &&& 31).toBitVec.smod 32).toNat = n := by decide +kernel
theorem s_u : ∀ n, n < 32 → (((nI n).toUInt32 &&& Int32.toUInt32 31).toBitVec % 32).toNat = n := by decide +kernel
theorem b_shl (n : Nat) (hn : n < 32) (x : Int32) {i : Nat} (hi : i < 32) : bt (x <<< (nI n &&& 31)) i = (decide (n ≤ i) && bt x (i - n)) := by
  unfold bt
  rw [Int32.toBitVec_shiftLeft]
  show (x.toBitVec <<< ((nI n &&& 31).toBitVec.smod 32).toNat).getLsbD i = _
  rw [s_l n hn, BitVec.getLsbD_shiftLeft]
  rcases Nat.lt_or_ge i n with h | h
  · simp [h, Nat.not_le.mpr h]
  · simp [hi, h, Nat.not_lt.mpr h]
theorem b_ushr (n : Nat) (hn : n < 32) (x : Int32) (i : Nat) : bt ((x.toUInt32 >>> ((nI n).toUInt32 &&& Int32.toUInt32 31)).toInt32) i = bt x (n + i) := by
  show (x.toUInt32 >>> ((nI n).toUInt32 &&& Int32.toUInt32 31)).toBitVec.getLsbD i = x.toUInt32.toBitVec.getLsbD (n + i)
  rw [UInt32.toBitVec_shiftRight]
  show (x.toUInt32.toBitVec >>> (((nI n).toUInt32 &&& Int32.toUInt32 31).toBitVec % 32).toNat).getLsbD i = _
  rw [s_u n hn, BitVec.getLsbD_ushiftRight]
theorem b_sshr (n : Nat) (hn : n < 32) (x : Int32) {i : Nat} (hi : i < 32) : bt (x >>> (nI n &&& 31)) i = if n + i < 32 then bt x (n + i) else bt x 31 := by
  unfold bt
  rw [Int32.toBitVec_shiftRight]
  show (x.toBitVec.sshiftRight ((nI n &&& 31).toBitVec.smod 32).toNat).getLsbD i = _
  rw [s_l n hn, BitVec.getLsbD_sshiftRight, BitVec.msb_eq_getLsbD_last]
  simp [hi]
theorem b_shl8 (x : Int32) {i : Nat} (hi : i < 32) : bt (x <<< ((8 : Int32) &&& 31)) i = (decide (8 ≤ i) && bt x (i - 8)) := b_shl 8 (by omega) x hi
theorem b_shl16 (x : Int32) {i : Nat} (hi : i < 32) : bt (x <<< ((16 : Int32) &&& 31)) i = (decide (16 ≤ i) && bt x (i - 16)) := b_shl 16 (by omega) x hi
theorem b_shl24 (x : Int32) {i : Nat} (hi : i < 32) : bt (x <<< ((24 : Int32) &&& 31)) i = (decide (24 ≤ i) && bt x (i - 24)) := b_shl 24 (by omega) x hi
theorem b_sshr8 (x : Int32) {i : Nat} (hi : i < 32) : bt (x >>> ((8 : Int32) &&& 31)) i = if 8 + i < 32 then bt x (8 + i) else bt x 31 := b_sshr 8 (by omega) x hi
theorem bp_b (x : Int32) : x.toInt8.toInt32 &&& 255 = x &&& 255 := by
  apply Int32.toBitVec_inj.mp
  rw [Int32.toBitVec_and, Int32.toBitVec_and, Int8.toBitVec_toInt32, Int32.toBitVec_toInt8]
  apply BitVec.eq_of_getLsbD_eq
  intro i hi
  rw [BitVec.getLsbD_and, BitVec.getLsbD_and]
  have hm : ∀ i < 32, 8 ≤ i → (255 : Int32).toBitVec.getLsbD i = false := by decide
  rcases Nat.lt_or_ge i 8 with z | z
  · rw [BitVec.getLsbD_signExtend, BitVec.getLsbD_signExtend, if_pos z, if_pos hi]
    simp only [z, hi, decide_true, Bool.true_and]
  · rw [hm i hi z]; simp
/-! bytes of ints -/
def b8 (x : Int32) : Nat := (x &&& 255).toNatClampNeg
theorem b8_eq (x : Int32) : x &&& 255 = nI (b8 x) := by
  obtain ⟨j, hj, e⟩ := pk_andE x (m := 255) 8 (by decide)
  unfold b8
  rw [e, nI_clamp (by omega)]
theorem b8_lt (x : Int32) : b8 x < 256 := by
  obtain ⟨j, hj, e⟩ := pk_andE x (m := 255) 8 (by decide)
  unfold b8
  rw [e, nI_clamp (by omega)]
  omega
theorem b8_nI {v : Nat} (h : v < 256) : b8 (nI v) = v := by
  have h1 := b8_eq (nI v)
  have h2 := pk_andN (n := v) (by omega) (m := 255) 8 (by decide)
  rw [h2, Nat.mod_eq_of_lt (by omega)] at h1
  exact ((nI_eq (by omega) (by have := b8_lt (nI v); omega)).mp h1).symm
theorem nb_255 {v : Nat} (h : v < 256) : nI v &&& 255 = nI v := by rw [b8_eq, b8_nI h]
theorem sx_b8 (x : Int32) : x.toInt8.toInt32 = sx (b8 x) := by
  have hb : (x.toInt8.toInt32).toInt8.toInt32 = x.toInt8.toInt32 := by
    have := pk_nb x
    unfold narrow at this
    exact Value.int.inj this
  exact (sc_eq hb (b8_lt x)).mpr (by rw [← b8_eq, bp_b])
def by4 (v : Int32) (k : Nat) : Nat := b8 (v >>> ((8 * nI k) &&& 31))
theorem by4_lt (v : Int32) (k : Nat) : by4 v k < 256 := b8_lt _
theorem by4_bt (v : Int32) {k i : Nat} (hk : k < 4) (hi : i < 32) : bt (nI (by4 v k)) i = (decide (i < 8) && bt v (8 * k + i)) := by
  unfold by4
  rw [← b8_eq, b_and, b_255, show (8 : Int32) * nI k = nI (8 * k) by rw [show (8 : Int32) = nI 8 by decide +kernel, pk_mul], b_sshr (8 * k) (by omega) v hi]
  by_cases h : i < 8
  · rw [decide_eq_true h, if_pos (by omega), Bool.and_true, Bool.true_and]
  · rw [decide_eq_false h, Bool.and_false, Bool.false_and]
/-- four bytes give the int back -/
theorem i4_by {h : Nat → Int32} {p : Nat} {v : Int32} (hh : ∀ k, k < 4 → h (p + k) = nI (by4 v k)) : i4 h p = v := by
  have h0 := hh 0 (by decide)
  rw [Nat.add_zero] at h0
  unfold i4
  rw [h0, hh 1 (by decide), hh 2 (by decide), hh 3 (by decide)]
  refine b_ext (fun i hi => ?_)
  rw [b_or, b_or, b_or, b_shl8 _ hi, b_shl16 _ hi, b_shl24 _ hi, by4_bt v (by decide) hi, by4_bt v (by decide) (by omega), by4_bt v (by decide) (by omega), by4_bt v (by decide) (by omega)]
  rcases Nat.lt_or_ge i 8 with c | c
  · rw [decide_eq_true c, decide_eq_false (show ¬ 8 ≤ i by omega), decide_eq_false (show ¬ 16 ≤ i by omega), decide_eq_false (show ¬ 24 ≤ i by omega)]
    simp
  · rcases Nat.lt_or_ge i 16 with c2 | c2
    · rw [decide_eq_false (show ¬ i < 8 by omega), decide_eq_true (show 8 ≤ i by omega), decide_eq_true (show i - 8 < 8 by omega), decide_eq_false (show ¬ 16 ≤ i by omega), decide_eq_false (show ¬ 24 ≤ i by omega), show 8 * 1 + (i - 8) = i by omega]
      simp
    · rcases Nat.lt_or_ge i 24 with c3 | c3
      · rw [decide_eq_false (show ¬ i < 8 by omega), decide_eq_true (show 8 ≤ i by omega), decide_eq_false (show ¬ i - 8 < 8 by omega), decide_eq_true (show 16 ≤ i by omega), decide_eq_true (show i - 16 < 8 by omega), decide_eq_false (show ¬ 24 ≤ i by omega), show 8 * 2 + (i - 16) = i by omega]
        simp
      · rw [decide_eq_false (show ¬ i < 8 by omega), decide_eq_true (show 8 ≤ i by omega), decide_eq_false (show ¬ i - 8 < 8 by omega), decide_eq_true (show 16 ≤ i by omega), decide_eq_false (show ¬ i - 16 < 8 by omega), decide_eq_true (show 24 ≤ i by omega), decide_eq_true (show i - 24 < 8 by omega), show 8 * 3 + (i - 24) = i by omega]
        simp
/-- and the bytes of the int at p are the bytes there -/
theorem by4_i4 {b : Nat → Nat} {p k : Nat} (hB : ∀ j, b j < 256) (hk : k < 4) : by4 (i4 (hb b) p) k = b (p + k) := by
  have h1 : nI (by4 (i4 (hb b) p) k) = nI (b (p + k)) := by
    refine b_ext (fun i hi => ?_)
    have big : ∀ j, j < 4 → ∀ i, 8 ≤ i → bt (nI (b (p + j))) i = false := by
      intro j _ i hi8
      have := b_and (nI (b (p + j))) 255 i
      rw [nb_255 (hB _), b_255, decide_eq_false (by omega), Bool.and_false] at this
      exact this
    rw [by4_bt _ hk hi]
    by_cases c : i < 8
    · rw [decide_eq_true c, Bool.true_and]
      unfold i4 hb
      rw [b_or, b_or, b_or, b_shl8 _ (by omega), b_shl16 _ (by omega), b_shl24 _ (by omega)]
      have b0 := big 0 (by decide)
      have b1 := big 1 (by decide)
      have b2 := big 2 (by decide)
      rw [Nat.add_zero] at b0
      match k, hk with
      | 0, _ =>
        rw [decide_eq_false (show ¬ 8 ≤ 8 * 0 + i by omega), decide_eq_false (show ¬ 16 ≤ 8 * 0 + i by omega), decide_eq_false (show ¬ 24 ≤ 8 * 0 + i by omega), show 8 * 0 + i = i by omega, Nat.add_zero]
        simp
      | 1, _ =>
        rw [b0 (8 * 1 + i) (by omega), decide_eq_true (show 8 ≤ 8 * 1 + i by omega), decide_eq_false (show ¬ 16 ≤ 8 * 1 + i by omega), decide_eq_false (show ¬ 24 ≤ 8 * 1 + i by omega), show 8 * 1 + i - 8 = i by omega]
        simp
      | 2, _ =>
        rw [b0 (8 * 2 + i) (by omega), b1 (8 * 2 + i - 8) (by omega), decide_eq_true (show 16 ≤ 8 * 2 + i by omega), decide_eq_false (show ¬ 24 ≤ 8 * 2 + i by omega), show 8 * 2 + i - 16 = i by omega]
        simp
      | 3, _ =>
        rw [b0 (8 * 3 + i) (by omega), b1 (8 * 3 + i - 8) (by omega), b2 (8 * 3 + i - 16) (by omega), decide_eq_true (show 24 ≤ 8 * 3 + i by omega), show 8 * 3 + i - 24 = i by omega]
        simp
    · rw [decide_eq_false c, Bool.false_and, big k hk i (by omega)]
  exact (nI_eq (by have := by4_lt (i4 (hb b) p) k; omega) (by have := hB (p + k); omega)).mp h1
/-! bytes as functions -/
theorem hb_upd {b : Nat → Nat} {n v : Nat} : upd (hb b) n (nI v) = hb (updG b n v) := by
  funext i
  unfold upd hb updG
  by_cases h : i = n
  · rw [if_pos h, if_pos h]
  · rw [if_neg h, if_neg h]
theorem hb_cpy {b b1 : Nat → Nat} {p n L : Nat} : va_cpy (hb b1) (hb b) p n L = hb (va_cpy b1 b p n L) := by
  funext i
  by_cases h : n ≤ i ∧ i < n + L
  · rw [pk_cpy_in h.1 h.2]
    unfold hb
    rw [pk_cpy_in h.1 h.2]
  · have h' : i < n ∨ n + L ≤ i := by omega
    rw [pk_cpy_out h']
    unfold hb
    rw [pk_cpy_out h']
def bB (b : Nat → Nat) : Prop := ∀ j, b j < 256
theorem bB.upd {b : Nat → Nat} {n v : Nat} (h : bB b) (hv : v < 256) : bB (updG b n v) := fun j => by
  unfold updG
  by_cases e : j = n
  · rw [if_pos e]; exact hv
  · rw [if_neg e]; exact h j
theorem bB.cpy {b b1 : Nat → Nat} {p n L : Nat} (h : bB b) (h1 : bB b1) : bB (va_cpy b1 b p n L) := fun j => by
  by_cases e : n ≤ j ∧ j < n + L
  · rw [pk_cpy_in e.1 e.2]; exact h1 _
  · rw [pk_cpy_out (by omega)]; exact h j
