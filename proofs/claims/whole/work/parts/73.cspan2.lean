/-! THE CLASS'S SPANS: row names, comparing; what runs over stays over. -/
/-- the NAME of number v in a row, with its 0 -/
def rnm (v : Nat) : Nat → Nat := fun i => if i < dg v then fig v (dg v - 1 - i) else 0
theorem rnm_bB (v : Nat) : bB (rnm v) := fun i => by
  unfold rnm
  by_cases c : i < dg v
  · rw [if_pos c]
    have := fig_lt v (dg v - 1 - i)
    omega
  · rw [if_neg c]
    decide
section CS2
variable {cy : Nat → ClassId} {iv : Nat → Option Nat} {ad : Nat → Nat} {μ0 : Mem} {J : Nat → Int32} {w : Nat} {B : Nat → Nat → Int32} {j n : Nat} {h : Nat → Int32} {o : Int32}
theorem pow10_lt {e : Nat} (h : e ≤ 9) : 10 ^ e < 2 ^ 31 ∧ 0 < 10 ^ e := by
  match e, h with
  | 0, _ => decide
  | 1, _ => decide
  | 2, _ => decide
  | 3, _ => decide
  | 4, _ => decide
  | 5, _ => decide
  | 6, _ => decide
  | 7, _ => decide
  | 8, _ => decide
  | 9, _ => decide
  | e + 10, h => omega
theorem P_row4 {v : Nat} (hv : v < 2 ^ 30) {μ : Mem} {a : Nat} : ∀ (r k f : Nat), k + r = dg v → 1 ≤ k → r < f → f_X5_appendRowName_L4 cy f a (nI v) (nI (10 ^ (k - 1))) (nI k) μ = f_X5_appendRowName_L25 cy FU a (nI v) (nI (10 ^ (dg v - 1))) 0 μ
  | r, k, 0, _, _, hf => by omega
  | 0, k, f + 1, hk, h1, hf => by
    have hd := dg_le v
    rw [f_X5_appendRowName_L4, p_digits hv, ob2_some, if_pos (nI_le (by omega) (by omega)), show k = dg v by omega]
  | r + 1, k, f + 1, hk, h1, hf => by
    have hd := dg_le v
    rw [f_X5_appendRowName_L4, p_digits hv, ob2_some, if_neg (nI_ge (by omega) (by omega)), show (10 : Int32) = nI 10 by decide +kernel, pk_mul, nI_a1, show 10 ^ (k - 1) * 10 = 10 ^ (k + 1 - 1) by rw [← Nat.pow_succ]; congr 1; omega]
    exact P_row4 hv r (k + 1) f (by omega) (by omega) (by omega)
/-- one figure more: what the loop does at 10 ^ e -/
theorem P_row25 {v e k f a : Nat} {μ : Mem} (hv : v < 2 ^ 30) (he : e ≤ 9) (hk : k < 10) : f_X5_appendRowName_L25 cy (f + 1) a (nI v) (nI (10 ^ e)) (nI k) μ = if isO μ a 4 = true then ((f_X5_append cy a (nI (fig v e)) μ).bind fun μ106 => f_X5_appendRowName_L25 cy f a (nI v) (if e = 0 then 0 else nI (10 ^ (e - 1))) (nI (k + 1)) μ106) else none := by
  have hp := pow10_lt he
  have hq : v / 10 ^ e < 2 ^ 31 := Nat.lt_of_le_of_lt (Nat.div_le_self _ _) (by omega)
  rw [f_X5_appendRowName_L25, if_neg (show ¬ (10 : Int32) ≤ nI k from nI_ge (b := 10) hk (by decide)), if_neg (nI_nle hp.2 hp.1), if_pos (nI_ne0 hp.2 hp.1), pk_div (by omega) hp.2 hp.1, show (10 : Int32) = nI 10 by decide +kernel, pk_rem hq (by decide) (by decide), show (48 : Int32) = nI 48 by decide +kernel, nI_p, pk_div hp.1 (by decide) (by decide), nI_a1]
  have e1 : nI (10 ^ e / 10) = if e = 0 then 0 else nI (10 ^ (e - 1)) := by
    by_cases c : e = 0
    · rw [if_pos c, c]
      rfl
    · rw [if_neg c]
      congr 1
      have : e = (e - 1) + 1 := by omega
      rw [this, Nat.pow_succ, Nat.mul_div_cancel _ (by decide), Nat.add_sub_cancel]
  rw [e1]
  rfl
theorem P_rowL (hL : Lay6 iv ad) (hj : span6 j = true) {v : Nat} (hv : v < 2 ^ 30) (b : Nat → Nat) (hn : n + dg v + 1 ≤ len6 (j + 1)) : ∀ (e k f : Nat), k + e + 1 = dg v → e + 1 < f → f_X5_appendRowName_L25 cy f (ad j) (nI v) (nI (10 ^ e)) (nI k) (MP cy iv ad μ0 J w B j (n + k) (hb (apn b n (rnm v) k)) o) = some (MP cy iv ad μ0 J w B j (n + dg v + 1) (hb (apn b n (rnm v) (dg v + 1))) o)
  | e, k, 0, _, hf => by omega
  | e, k, f + 1, hk, hf => by
    have hd := dg_le v
    have hfg := fig_lt v e
    have er : rnm v k = fig v e := by
      unfold rnm
      rw [if_pos (by omega), show dg v - 1 - k = e by omega]
    rw [P_row25 hv (by omega) (by omega), if_pos (P_is hL hj), P_appendB hL hj (by omega), Option.bind_some, b8_nI (by omega), ← er, apn_s]
    match e, hk, hf with
    | 0, hk, hf =>
      rw [if_pos rfl]
      match f, hf with
      | f + 1, hf =>
        have e2 : (n + k + 1) = n + dg v := by omega
        have e3 : k + 1 = dg v := by omega
        rw [f_X5_appendRowName_L25]
        unfold f_X5_appendRowName_L59
        rw [e2, e3, if_pos (P_is hL hj), P_appendB hL hj (by omega), Option.bind_some, show b8 (0 : Int32) = rnm v (dg v) by unfold rnm; rw [if_neg (by omega)]; rfl, apn_s]
        by_cases c : (10 : Int32) ≤ nI (dg v)
        · rw [if_pos c]
        · rw [if_neg c, if_pos (by decide)]
    | e + 1, hk, hf =>
      rw [if_neg (by omega), Nat.add_sub_cancel]
      exact P_rowL hL hj hv b hn e (k + 1) f (by omega) (by omega)
theorem P_row (hL : Lay6 iv ad) (hj : span6 j = true) {v : Nat} (hv : v < 2 ^ 30) {b : Nat → Nat} (hn : n + dg v + 1 ≤ len6 (j + 1)) : f_X5_appendRowName cy (ad j) (nI v) (MP cy iv ad μ0 J w B j n (hb b) o) = some (MP cy iv ad μ0 J w B j (n + dg v + 1) (hb (apn b n (rnm v) (dg v + 1))) o) := by
  have hd := dg_le v
  unfold f_X5_appendRowName
  have h1 := P_row4 (cy := cy) (v := v) (μ := MP cy iv ad μ0 J w B j n (hb b) o) (a := ad j) hv (dg v - 1) 1 FU (by omega) (by omega) (by show dg v - 1 < 100000; omega)
  have h2 := P_rowL (cy := cy) (μ0 := μ0) (J := J) (w := w) (B := B) (o := o) hL hj hv b hn (dg v - 1) 0 FU (by omega) (by show dg v - 1 + 1 < 100000; omega)
  rw [apn_0] at h2
  exact h1.trans h2
/-! any state: over stays over, too much makes it over -/
def OV (cy : Nat → ClassId) (iv : Nat → Option Nat) (ad : Nat → Nat) (μ0 : Mem) (J : Nat → Int32) (w : Nat) (B : Nat → Nat → Int32) (j n : Nat) (o : Int32) (L : Nat) (x : Option Mem) : Prop := ∃ n' b' o', x = some (MP cy iv ad μ0 J w B j n' (hb b') o') ∧ bB b' ∧ n' ≤ len6 (j + 1) ∧ n ≤ n' ∧ n' ≤ n + L ∧ (o = 1 → o' = 1) ∧ (o' = 1 ∨ n' = n + L)
theorem OV.append (hL : Lay6 iv ad) (hj : span6 j = true) {b : Nat → Nat} (hB : bB b) (hn : n ≤ len6 (j + 1)) (x : Int32) : OV cy iv ad μ0 J w B j n o 1 (f_X5_append cy (ad j) x (MP cy iv ad μ0 J w B j n (hb b) o)) := by
  rcases Nat.lt_or_ge n (len6 (j + 1)) with c | c
  · exact ⟨n + 1, _, o, P_appendB hL hj c x, hB.upd (b8_lt x), c, by omega, by omega, fun z => z, Or.inr rfl⟩
  · exact ⟨n, b, 1, P_appendO hL hj (by omega) x, hB, hn, by omega, by omega, fun _ => rfl, Or.inl rfl⟩
theorem OV.part (hL : Lay6 iv ad) (hj : span6 j = true) {b b1 : Nat → Nat} (hB : bB b) (hB1 : bB b1) (hn : n ≤ len6 (j + 1)) {k m p q : Nat} (hk : span6 k = true) (hkj : k ≠ j) (h1 : J (100 * k + 1) = nI m) (hb1 : B (k + 1) = hb b1) (hm : m ≤ len6 (k + 1)) (hpq : p ≤ q) (hq : q ≤ m) : OV cy iv ad μ0 J w B j n o (q - p) (f_X5_appendPart cy (ad j) (ad k) (nI p) (nI q) (MP cy iv ad μ0 J w B j n (hb b) o)) := by
  rcases Nat.lt_or_ge (len6 (j + 1)) (n + (q - p)) with c | c
  · exact ⟨n, b, 1, P_partO hL hj hk hkj h1 hm hpq hq hn c, hB, hn, by omega, by omega, fun _ => rfl, Or.inl rfl⟩
  · refine ⟨n + (q - p), va_cpy b1 b p n (q - p), o, ?_, hB.cpy hB1, c, by omega, by omega, fun z => z, Or.inr rfl⟩
    rw [P_part hL hj hk hkj h1 hm hpq hq c, hb1, hb_cpy]
theorem OV.bind {L M : Nat} {x : Option Mem} {k : Mem → Option Mem} (h1 : OV cy iv ad μ0 J w B j n o L x) (h2 : ∀ n' b' o', bB b' → n' ≤ len6 (j + 1) → OV cy iv ad μ0 J w B j n' o' M (k (MP cy iv ad μ0 J w B j n' (hb b') o'))) : OV cy iv ad μ0 J w B j n o (L + M) (x.bind k) := by
  obtain ⟨n', b', o', e, hB, a1, a2, a3, a4, a5⟩ := h1
  obtain ⟨n2, b2, o2, e2, hB2, c1, c2, c3, c4, c5⟩ := h2 n' b' o' hB a1
  refine ⟨n2, b2, o2, ?_, hB2, c1, by omega, by omega, fun z => c4 (a4 z), ?_⟩
  · rw [e, Option.bind_some, e2]
  · rcases a5 with z | z
    · exact Or.inl (c4 z)
    · rcases c5 with y | y
      · exact Or.inl y
      · exact Or.inr (by omega)
theorem OV.over {L : Nat} {x : Option Mem} (h1 : OV cy iv ad μ0 J w B j n o L x) (hl : o = 1 ∨ len6 (j + 1) < n + L) : ∃ n' b', x = some (MP cy iv ad μ0 J w B j n' (hb b') 1) ∧ bB b' ∧ n' ≤ len6 (j + 1) := by
  obtain ⟨n', b', o', e, hB, a1, a2, a3, a4, a5⟩ := h1
  have : o' = 1 := by
    rcases hl with z | z
    · exact a4 z
    · rcases a5 with y | y
      · exact y
      · omega
  subst this
  exact ⟨n', b', e, hB, a1⟩
theorem OV.row25 (hL : Lay6 iv ad) (hj : span6 j = true) {v : Nat} (hv : v < 2 ^ 30) : ∀ (e k f n : Nat) (b : Nat → Nat) (o : Int32), k + e + 1 = dg v → e + 1 < f → bB b → n ≤ len6 (j + 1) → OV cy iv ad μ0 J w B j n o (e + 2) (f_X5_appendRowName_L25 cy f (ad j) (nI v) (nI (10 ^ e)) (nI k) (MP cy iv ad μ0 J w B j n (hb b) o))
  | e, k, 0, n, b, o, _, hf, _, _ => by omega
  | e, k, f + 1, n, b, o, hk, hf, hB, hn => by
    have hd := dg_le v
    rw [P_row25 hv (by omega) (by omega), if_pos (P_is hL hj)]
    have h1 := OV.append (cy := cy) (μ0 := μ0) (J := J) (w := w) (B := B) (o := o) hL hj hB hn (nI (fig v e))
    have key := OV.bind (M := e + 1) h1 (k := fun μ106 => f_X5_appendRowName_L25 cy f (ad j) (nI v) (if e = 0 then 0 else nI (10 ^ (e - 1))) (nI (k + 1)) μ106) (fun n' b' o' hB' hn' => ?_)
    · rw [show 1 + (e + 1) = e + 2 by omega] at key
      exact key
    · match e, hk, hf with
      | 0, hk, hf =>
        rw [if_pos rfl]
        match f, hf with
        | f + 1, hf =>
          rw [f_X5_appendRowName_L25]
          unfold f_X5_appendRowName_L59
          have h2 := OV.append (cy := cy) (μ0 := μ0) (J := J) (w := w) (B := B) (o := o') hL hj hB' hn' 0
          have h3 : OV cy iv ad μ0 J w B j n' o' (0 + 1) (if isO (MP cy iv ad μ0 J w B j n' (hb b') o') (ad j) 4 = true then ((f_X5_append cy (ad j) 0 (MP cy iv ad μ0 J w B j n' (hb b') o')).bind fun μ103 => some μ103) else none) := by
            rw [if_pos (P_is hL hj)]
            obtain ⟨n2, b2, o2, e2, rest⟩ := h2
            rw [e2]
            exact ⟨n2, b2, o2, rfl, rest⟩
          by_cases c : (10 : Int32) ≤ nI (k + 1)
          · rw [if_pos c]
            exact h3
          · rw [if_neg c, if_pos (by decide)]
            exact h3
      | e + 1, hk, hf =>
        rw [if_neg (by omega), Nat.add_sub_cancel]
        exact OV.row25 hL hj hv e (k + 1) f n' b' o' (by omega) (by omega) hB' hn'
theorem OV.row (hL : Lay6 iv ad) (hj : span6 j = true) {v : Nat} (hv : v < 2 ^ 30) {b : Nat → Nat} (hB : bB b) (hn : n ≤ len6 (j + 1)) : OV cy iv ad μ0 J w B j n o (dg v + 1) (f_X5_appendRowName cy (ad j) (nI v) (MP cy iv ad μ0 J w B j n (hb b) o)) := by
  have hd := dg_le v
  unfold f_X5_appendRowName
  have h1 := P_row4 (cy := cy) (v := v) (μ := MP cy iv ad μ0 J w B j n (hb b) o) (a := ad j) hv (dg v - 1) 1 FU (by omega) (by omega) (by show dg v - 1 < 100000; omega)
  have h2 := OV.row25 (cy := cy) (μ0 := μ0) (J := J) (w := w) (B := B) hL hj hv (dg v - 1) 0 FU n b o (by omega) (by show dg v - 1 + 1 < 100000; omega) hB hn
  rw [show dg v - 1 + 2 = dg v + 1 by omega] at h2
  have h3 : f_X5_appendRowName_L4 cy FU (ad j) (nI v) 1 1 (MP cy iv ad μ0 J w B j n (hb b) o) = _ := h1
  rw [h3]
  exact h2
/-! comparing -/
theorem P_sameL {a a1 c c1 cap cap1 n1 : Nat} {μ : Mem} {h1 : Nat → Int32} {o1 : Int32} (S : SP cy μ a c cap n h o) (S1 : SP cy μ a1 c1 cap1 n1 h1 o1) {p s m : Nat} (hp : p + m ≤ n) (hs : s + m ≤ n1) : ∀ (r k f : Nat), k + r = m → r < f → ∃ x : Int32, f_X5_hasSame_L3 cy f a (nI p) a1 (nI s) (nI m) (nI k) μ = some (x, μ) ∧ ((∀ i, k ≤ i → i < m → h (p + i) = h1 (s + i)) → x = 1) ∧ (¬ (∀ i, k ≤ i → i < m → h (p + i) = h1 (s + i)) → x = 0)
  | r, k, 0, _, hf => by omega
  | 0, k, f + 1, hk, hf => by
    have b := S.2.2
    rw [f_X5_hasSame_L3, if_pos (nI_le (by omega) (by omega))]
    exact ⟨1, rfl, fun _ => rfl, fun z => absurd (fun i a1 a2 => by omega) z⟩
  | r + 1, k, f + 1, hk, hf => by
    have b := S.2.2
    have b1 := S1.2.2
    rw [f_X5_hasSame_L3, if_neg (nI_ge (by omega) (by omega)), if_pos (s_is S), nI_p, s_at S (by omega), ob2_some, if_pos (s_is S1), nI_p, s_at S1 (by omega), ob2_some, nI_a1]
    by_cases e : h (p + k) = h1 (s + k)
    · rw [if_pos e]
      obtain ⟨x, g1, g2, g3⟩ := P_sameL S S1 hp hs r (k + 1) f (by omega) (by omega)
      refine ⟨x, g1, fun z => g2 (fun i a1 a2 => z i (by omega) a2), fun z => g3 (fun y => z (fun i a1 a2 => ?_))⟩
      by_cases hi : i = k
      · rw [hi]; exact e
      · exact y i (by omega) a2
    · rw [if_neg e]
      exact ⟨0, rfl, fun z => absurd (z k (Nat.le_refl k) (by omega)) e, fun _ => rfl⟩
theorem P_same {a a1 c c1 cap cap1 n1 : Nat} {μ : Mem} {h1 : Nat → Int32} {o1 : Int32} (S : SP cy μ a c cap n h o) (S1 : SP cy μ a1 c1 cap1 n1 h1 o1) {p s m : Nat} (hp : p + m ≤ n) (hs : s + m ≤ n1) : ∃ x : Int32, f_X5_hasSame cy a (nI p) a1 (nI s) (nI m) μ = some (x, μ) ∧ ((∀ i, i < m → h (p + i) = h1 (s + i)) → x = 1) ∧ (¬ (∀ i, i < m → h (p + i) = h1 (s + i)) → x = 0) := by
  have b := S.2.2
  unfold f_X5_hasSame
  obtain ⟨x, g1, g2, g3⟩ := P_sameL S S1 hp hs m 0 FU (by omega) (by show m < 100000; omega)
  exact ⟨x, g1, fun z => g2 (fun i _ a2 => z i a2), fun z => g3 (fun y => z (fun i a2 => y i (Nat.zero_le _) a2))⟩
/-- the first place from p on, of k, at which two rows differ -/
def fdf (h h1 : Nat → Int32) : Nat → Nat → Option Nat
  | _, 0 => none
  | p, k + 1 => if h p = h1 p then fdf h h1 (p + 1) k else some p
theorem P_diffL {a a1 c c1 cap cap1 n1 : Nat} {μ : Mem} {h1 : Nat → Int32} {o1 : Int32} (S : SP cy μ a c cap n h o) (S1 : SP cy μ a1 c1 cap1 n1 h1 o1) {m : Nat} (hm : m ≤ n) (hm1 : m ≤ n1) : ∀ (r p f : Nat), p + r = m → r < f → f_X5_firstDifference_L15 cy f a a1 (nI m) (nI p) μ = some ((match fdf h h1 p r with | some q => nI q | none => if n = n1 then -1 else nI m), μ)
  | r, p, 0, _, hf => by omega
  | 0, p, f + 1, hp, hf => by
    have b := S.2.2
    have b1 := S1.2.2
    rw [f_X5_firstDifference_L15, if_pos (nI_le (by omega) (by omega)), s_size S, Option.bind_some, s_size S1, Option.bind_some]
    show _ = some ((if n = n1 then (-1 : Int32) else nI m), μ)
    by_cases e : n = n1
    · rw [if_pos (by rw [e]), if_pos e]
    · rw [if_neg (fun z => e ((nI_eq (by omega) (by omega)).mp z)), if_neg e]
  | r + 1, p, f + 1, hp, hf => by
    have b := S.2.2
    have b1 := S1.2.2
    rw [f_X5_firstDifference_L15, if_neg (nI_ge (by omega) (by omega)), if_pos (s_is S), s_at S (by omega), ob2_some, if_pos (s_is S1), s_at S1 (by omega), ob2_some, nI_a1, fdf]
    by_cases e : h p = h1 p
    · rw [if_pos e, if_pos e]
      exact P_diffL S S1 hm hm1 r (p + 1) f (by omega) (by omega)
    · rw [if_neg e, if_neg e]
theorem P_diff {a a1 c c1 cap cap1 n1 : Nat} {μ : Mem} {h1 : Nat → Int32} {o1 : Int32} (S : SP cy μ a c cap n h o) (S1 : SP cy μ a1 c1 cap1 n1 h1 o1) {p m : Nat} (hm : m = min n n1) (hp : p ≤ m) : f_X5_firstDifference cy a a1 (nI p) μ = some ((match fdf h h1 p (m - p) with | some q => nI q | none => if n = n1 then -1 else nI m), μ) := by
  have b := S.2.2
  have b1 := S1.2.2
  unfold f_X5_firstDifference
  rw [s_size S, Option.bind_some, s_size S1, Option.bind_some]
  have e1 : (if nI n1 < nI n then nI n1 else nI n) = nI m := by
    by_cases c : n1 < n
    · rw [if_pos (nI_lt c (by omega)), hm, Nat.min_eq_right (by omega)]
    · rw [if_neg (nI_nlt (by omega) (by omega)), hm, Nat.min_eq_left (by omega)]
  rw [e1]
  exact P_diffL S S1 (by omega) (by omega) (m - p) p FU (by omega) (by show m - p < 100000; omega)
end CS2
