/-! A NEW SHELF, A NEW CLASS. -/
def e5 : Nat → Int32 := fun j => if j = 0 then 5 else 0
def e4 : Nat → Int32 := fun j => if j = 0 then 4 else 0
theorem gI {l t : List va_E} {i : Nat} : (l ++ t)[l.length + i]? = t[i]? := by
  rw [List.getElem?_append_right (by omega), show l.length + i - l.length = i by omega]
theorem sI {l t : List va_E} {i : Nat} {x : va_E} : (l ++ t).set (l.length + i) x = l ++ t.set i x := by
  rw [List.set_append, if_neg (by omega), show l.length + i - l.length = i by omega]
section TT
variable {cy : Nat → ClassId} {z q : Nat} {μ0 : Mem} {l t : List va_E} {i ci f n : Nat} {fs : List Value}
theorem t_w {v : Value} (hq : q = z + (l.length + i)) (ht : t[i]? = some (.inr (ci, fs))) (hf : f < fs.length) : wrF (MZL z μ0 (l ++ t)) q ci f v = some (MZL z μ0 (l ++ t.set i (.inr (ci, fs.set f v)))) := by
  rw [hq, wrF_MZ (by rw [gI]; exact ht) hf, sI]
theorem t_r {v : Nat} (hq : q = z + (l.length + i)) (ht : t[i]? = some (.inr (ci, fs))) (hf : fs[f]? = some (.ref v)) : rdR (MZL z μ0 (l ++ t)) q ci f = some v := by
  rw [hq, rdR_MZ (by rw [gI]; exact ht) hf]
theorem t_i {v : Int32} (hq : q = z + (l.length + i)) (ht : t[i]? = some (.inr (ci, fs))) (hf : fs[f]? = some (.int v)) : rdI (MZL z μ0 (l ++ t)) q ci f = some v := by
  rw [hq, rdI_MZ (by rw [gI]; exact ht) hf]
theorem t_o (hq : q = z + (l.length + i)) (ht : t[i]? = some (.inr (ci, fs))) : isO (MZL z μ0 (l ++ t)) q ci = true := by
  rw [hq, isO_MZ (by rw [gI]; exact ht)]
theorem t_a {ty : Nat} {h : Nat → Int32} {j x : Int32} (hq : q = z + (l.length + i)) (ht : t[i]? = some (.inl (cy ty, n, .inl h))) (hj : ¬ (j < 0 ∨ n ≤ j.toNatClampNeg)) : wrA cy (MZL z μ0 (l ++ t)) ty q j x = some (MZL z μ0 (l ++ t.set i (.inl (cy ty, n, .inl (upd h j.toNatClampNeg x))))) := by
  rw [hq, wrA_MZ (by rw [gI]; exact ht) hj, sI]
theorem t_d {ty : Nat} {h : Nat → Int32} {j : Int32} (hq : q = z + (l.length + i)) (ht : t[i]? = some (.inl (cy ty, n, .inl h))) (hj : ¬ (j < 0 ∨ n ≤ j.toNatClampNeg)) : rdA cy (MZL z μ0 (l ++ t)) ty q j = some (h j.toNatClampNeg) := by
  rw [hq, rdA_MZ (by rw [gI]; exact ht) hj]
theorem t_at {e : va_E} (hq : q = z + (l.length + i)) (ht : t[i]? = some e) : MZL z μ0 (l ++ t) q = e := by
  rw [hq]
  exact MZL_at (by rw [gI]; exact ht)
theorem Fr_up {b c : Nat} {μ μ' : Mem} {x y : va_E} (h : Fr [b, c] μ μ') (hb : μ' b = x) (hc : μ' c = y) : μ' = va_up (va_up μ c y) b x := by
  funext q
  unfold va_up
  by_cases h1 : q = b
  · rw [if_pos h1, h1, hb]
  · rw [if_neg h1]
    by_cases h2 : q = c
    · rw [if_pos h2, h2, hc]
    · rw [if_neg h2]
      exact h q (by simp [h1, h2])
theorem t_up {b c ib ic : Nat} {μ' : Mem} {x y : va_E} (hb : b = z + (l.length + ib)) (hc : c = z + (l.length + ic)) (h1 : ib < t.length) (h2 : ic < t.length) (h : Fr [b, c] (MZL z μ0 (l ++ t)) μ') (hx : μ' b = x) (hy : μ' c = y) : μ' = MZL z μ0 (l ++ (t.set ic y).set ib x) := by
  rw [Fr_up h hx hy, hb, hc, MZL_set (by rw [List.length_append]; omega), sI, MZL_set (by rw [List.length_append, List.length_set]; omega), sI]
end TT
theorem e5_of : upd (upd (upd (upd (upd (fun _ => 0) 0 (Int64.toInt32 (5 >>> (Int32.toInt64 (8 * 0) &&& 63)) &&& 255)) 1 (Int64.toInt32 (5 >>> (Int32.toInt64 (8 * (0 + 1)) &&& 63)) &&& 255)) 2 (Int64.toInt32 (5 >>> (Int32.toInt64 (8 * (0 + 1 + 1)) &&& 63)) &&& 255)) 3 (Int64.toInt32 (5 >>> (Int32.toInt64 (8 * (0 + 1 + 1 + 1)) &&& 63)) &&& 255)) 4 (Int64.toInt32 (5 >>> (Int32.toInt64 (8 * (0 + 1 + 1 + 1 + 1)) &&& 63)) &&& 255) = e5 := by
  funext j
  unfold e5
  rcases j with _ | _ | _ | _ | _ | j
  · decide +kernel
  · decide +kernel
  · decide +kernel
  · decide +kernel
  · decide +kernel
  · simp [upd]
theorem n_alf {cy : Nat → ClassId} {z a b : Nat} {μ0 : Mem} {l : List va_E} (ha : a = z + l.length) (hb : b = z + l.length + 1) : f_X5_appendLowestFirst cy a 5 5 (MZL z μ0 (l ++ [spO b 0, aZ cy 5])) = some (MZL z μ0 (l ++ [spO b 5, .inl (cy 1, 5, .inl e5)])) := by
  have S : SP cy (MZL z μ0 (l ++ [spO b 0, aZ cy 5])) a b 5 0 (fun _ => 0) 0 := ⟨t_at (i := 0) ha rfl, t_at (i := 1) (by rw [hb]; rfl) rfl, by decide, by decide⟩
  obtain ⟨m1, q1, S1, F1⟩ := s_append S (by decide) (Int64.toInt32 (5 >>> (Int32.toInt64 (8 * 0) &&& 63)))
  obtain ⟨m2, q2, S2, F2⟩ := s_append S1 (by decide) (Int64.toInt32 (5 >>> (Int32.toInt64 (8 * (0 + 1)) &&& 63)))
  obtain ⟨m3, q3, S3, F3⟩ := s_append S2 (by decide) (Int64.toInt32 (5 >>> (Int32.toInt64 (8 * (0 + 1 + 1)) &&& 63)))
  obtain ⟨m4, q4, S4, F4⟩ := s_append S3 (by decide) (Int64.toInt32 (5 >>> (Int32.toInt64 (8 * (0 + 1 + 1 + 1)) &&& 63)))
  obtain ⟨m5, q5, S5, F5⟩ := s_append S4 (by decide) (Int64.toInt32 (5 >>> (Int32.toInt64 (8 * (0 + 1 + 1 + 1 + 1)) &&& 63)))
  have key : ∀ n, f_X5_appendLowestFirst_L3 cy (n + 6) a 5 5 0 (MZL z μ0 (l ++ [spO b 0, aZ cy 5])) = some m5 := by
    intro n
    rw [f_X5_appendLowestFirst_L3, if_neg (by decide +kernel), if_neg (by decide +kernel), if_pos (s_is S), q1, Option.bind_some]
    rw [f_X5_appendLowestFirst_L3, if_neg (by decide +kernel), if_neg (by decide +kernel), if_pos (s_is S1), q2, Option.bind_some]
    rw [f_X5_appendLowestFirst_L3, if_neg (by decide +kernel), if_neg (by decide +kernel), if_pos (s_is S2), q3, Option.bind_some]
    rw [f_X5_appendLowestFirst_L3, if_neg (by decide +kernel), if_neg (by decide +kernel), if_pos (s_is S3), q4, Option.bind_some]
    rw [f_X5_appendLowestFirst_L3, if_neg (by decide +kernel), if_neg (by decide +kernel), if_pos (s_is S4), q5, Option.bind_some]
    rw [f_X5_appendLowestFirst_L3, if_pos (by decide +kernel)]
  have h5 : m5 = MZL z μ0 (l ++ [spO b 5, .inl (cy 1, 5, .inl e5)]) := by
    refine t_up (t := [spO b 0, aZ cy 5]) (ib := 0) (ic := 1) ha (by rw [hb]; rfl) (Nat.le_of_ble_eq_true rfl) (Nat.le_of_ble_eq_true rfl) (b := a) (c := b) (fun q hq => (F5 q hq).trans ((F4 q hq).trans ((F3 q hq).trans ((F2 q hq).trans (F1 q hq))))) ?_ ?_
    · rw [S5.1]
      rfl
    · rw [S5.2.1]
      exact congrArg (fun h => (Sum.inl (cy 1, 5, Sum.inl h) : va_E)) e5_of
  rw [← h5]
  exact key 99994
/-- the nine cells of a shelf, whose first stands in front of b -/
def shO (b d : Nat) : va_E := .inr (3, [.ref b, .ref (b + 2), .ref d, .int 0, .int (-1), .int 0, .int 0])
def cuO (b : Nat) : va_E := .inr (0, [.ref (b + 3), .ref (b + 4), .ref (b + 5), .ref (b + 6), .int 0, .int (-1), .ref (b + 7), .int 0])
def blk0 (cy : Nat → ClassId) (b d : Nat) : List va_E := [shO b d, spO (b + 1) 0, aZ cy 2400, cuO b, aZ cy 24, aZ cy 24, aZ cy 24, aZ cy 24, aZ cy 1201]
def blk (cy : Nat → ClassId) (b d : Nat) : List va_E := [shO b d, spO (b + 1) 5, .inl (cy 1, 2400, .inl e5), cuO b, aZ cy 24, aZ cy 24, aZ cy 24, aZ cy 24, .inl (cy 1, 1201, .inl e4)]
theorem cp5 : va_cpy e5 (fun _ => 0) 0 0 (5 - 0) = e5 := by
  funext j
  unfold va_cpy e5
  by_cases h : j < 5
  · rw [if_pos (by omega), show 0 + (j - 0) = j by omega]
  · rw [if_neg (by omega), if_neg (by omega)]
theorem u00 : upd (fun _ => (0 : Int32)) 0 0 = fun _ => 0 := by
  funext j
  unfold upd
  split <;> rfl
theorem u04 : upd (fun _ => (0 : Int32)) 0 (0 + 5 - 1) = e4 := by
  funext j
  unfold upd e4
  split <;> rfl
theorem n_become {cy : Nat → ClassId} {z a b d e e' je : Nat} {μ0 : Mem} {l : List va_E} (ha : a = z + l.length) (hb : b = z + l.length + 1) (he : e = z + je) (he' : e' = z + (je + 1)) (h1 : l[je]? = some (spO e' 5)) (h2 : l[je + 1]? = some (.inl (cy 1, 5, .inl e5))) : f_X4_become cy a e (MZL z μ0 (l ++ blk0 cy b d)) = some (MZL z μ0 (l ++ blk cy b d)) := by
  have hje : je + 1 < l.length := (List.getElem?_eq_some_iff.mp h2).1
  have ea : ∀ t : List va_E, MZL z μ0 (l ++ t) e = spO e' 5 := fun t => by rw [he]; exact MZL_at (by rw [List.getElem?_append_left (by omega)]; exact h1)
  have eb : ∀ t : List va_E, MZL z μ0 (l ++ t) e' = .inl (cy 1, 5, .inl e5) := fun t => by rw [he']; exact MZL_at (by rw [List.getElem?_append_left (by omega)]; exact h2)
  have S : SP cy (MZL z μ0 (l ++ blk0 cy b d)) b (b + 1) 2400 0 (fun _ => 0) 0 := ⟨t_at (i := 1) (by rw [hb]; rfl) rfl, t_at (i := 2) (by rw [hb]; rfl) rfl, by decide, by decide⟩
  obtain ⟨m1, q1, S1, F1⟩ := s_clear S
  have E1 : SP cy m1 e e' 5 5 e5 0 := ⟨by rw [F1 e (by simp; omega)]; exact ea _, by rw [F1 e' (by simp; omega)]; exact eb _, by decide, by decide⟩
  obtain ⟨m2, q2, S2, F2⟩ := s_appendPart S1 E1 ⟨by omega, by omega⟩ (p := 0) (q := 5) (by decide) (by decide) (by decide)
  have hm2 : m2 = MZL z μ0 (l ++ [shO b d, spO (b + 1) 5, .inl (cy 1, 2400, .inl e5), cuO b, aZ cy 24, aZ cy 24, aZ cy 24, aZ cy 24, aZ cy 1201]) := by
    refine t_up (t := blk0 cy b d) (ib := 1) (ic := 2) (b := b) (c := b + 1) (by rw [hb]; rfl) (by rw [hb]; rfl) (Nat.le_of_ble_eq_true rfl) (Nat.le_of_ble_eq_true rfl) (fun q hq => (F2 q hq).trans (F1 q (by simp at hq ⊢; exact hq.1))) ?_ ?_
    · rw [S2.1]
      rfl
    · rw [S2.2.1, cp5]
  have B5 : f_X5_become cy b e (MZL z μ0 (l ++ blk0 cy b d)) = some m2 := by
    unfold f_X5_become
    rw [if_pos (s_is S), q1, Option.bind_some, s_size E1, Option.bind_some, if_pos (s_is S1)]
    rw [show f_X5_appendPart cy b e 0 (nI 5) m1 = some m2 from q2, Option.bind_some]
  unfold f_X4_become
  rw [t_r (i := 0) (f := 0) (v := b) (t := blk0 cy b d) ha rfl rfl, Option.bind_some, if_pos (s_is S), B5, Option.bind_some]
  subst hm2
  rw [t_r (i := 0) (f := 1) (v := b + 2) ha rfl rfl, Option.bind_some, t_r (i := 0) (f := 0) (v := b) ha rfl rfl, Option.bind_some, if_pos (t_o (i := 3) (by rw [hb]; rfl) rfl)]
  unfold f_X0_toRoot
  have c3 : b + 2 = z + (l.length + 3) := by rw [hb]; rfl
  rw [t_w (i := 3) (f := 4) c3 rfl (Nat.le_of_ble_eq_true rfl), Option.bind_some]
  rw [t_r (i := 3) (f := 0) (v := b + 3) c3 rfl rfl, Option.bind_some, t_a (i := 4) (by rw [hb]; rfl) rfl (by decide), Option.bind_some]
  rw [t_r (i := 3) (f := 1) (v := b + 4) c3 rfl rfl, Option.bind_some, t_a (i := 5) (by rw [hb]; rfl) rfl (by decide), Option.bind_some]
  rw [if_pos (t_o (i := 3) c3 rfl)]
  have hz1 : ∀ x : List va_E, x = [shO b d, spO (b + 1) 5, .inl (cy 1, 2400, .inl e5), cuO b, .inl (cy 1, 24, .inl (upd (fun _ => 0) 0 0)), .inl (cy 1, 24, .inl (upd (fun _ => 0) 0 0)), aZ cy 24, aZ cy 24, aZ cy 1201] → x = [shO b d, spO (b + 1) 5, .inl (cy 1, 2400, .inl e5), cuO b, aZ cy 24, aZ cy 24, aZ cy 24, aZ cy 24, aZ cy 1201] := fun x hx => by rw [hx, u00]; rfl
  show ((f_X0_findStarts cy (b + 2) b (MZL z μ0 (l ++ [shO b d, spO (b + 1) 5, .inl (cy 1, 2400, .inl e5), cuO b, .inl (cy 1, 24, .inl (upd (fun _ => 0) 0 0)), .inl (cy 1, 24, .inl (upd (fun _ => 0) 0 0)), aZ cy 24, aZ cy 24, aZ cy 1201]))).bind (fun μ13 => if isO μ13 (b + 2) 0 = true then (f_X0_toNumberOrLast cy (b + 2) 0 μ13).bind fun μ16 => some μ16 else none)).bind (fun μ12 => some μ12) = _
  rw [hz1 _ rfl]
  have S9 : SP cy (MZL z μ0 (l ++ [shO b d, spO (b + 1) 5, .inl (cy 1, 2400, .inl e5), cuO b, aZ cy 24, aZ cy 24, aZ cy 24, aZ cy 24, aZ cy 1201])) b (b + 1) 2400 5 e5 0 := ⟨t_at (i := 1) (by rw [hb]; rfl) rfl, t_at (i := 2) (by rw [hb]; rfl) rfl, by decide, by decide⟩
  have D9 : f_X0_document cy (b + 2) (MZL z μ0 (l ++ [shO b d, spO (b + 1) 5, .inl (cy 1, 2400, .inl e5), cuO b, aZ cy 24, aZ cy 24, aZ cy 24, aZ cy 24, aZ cy 1201])) = some (0, MZL z μ0 (l ++ [shO b d, spO (b + 1) 5, .inl (cy 1, 2400, .inl e5), cuO b, aZ cy 24, aZ cy 24, aZ cy 24, aZ cy 24, aZ cy 1201])) := by
    unfold f_X0_document
    rw [t_r (i := 3) (f := 0) (v := b + 3) c3 rfl rfl, Option.bind_some, t_i (i := 3) (f := 4) (v := 0) c3 rfl rfl, Option.bind_some, t_d (i := 4) (n := 24) (h := fun _ => 0) (by rw [hb]; rfl) rfl (by decide), Option.bind_some]
  have I9 := s_intAt S9 (j := 0) (by decide)
  have FS : f_X0_findStarts cy (b + 2) b (MZL z μ0 (l ++ [shO b d, spO (b + 1) 5, .inl (cy 1, 2400, .inl e5), cuO b, aZ cy 24, aZ cy 24, aZ cy 24, aZ cy 24, aZ cy 1201])) = some (MZL z μ0 (l ++ blk cy b d)) := by
    unfold f_X0_findStarts
    rw [if_pos (t_o (i := 3) c3 rfl), D9]
    simp only [ob2, Option.bind_some]
    rw [if_pos (t_o (i := 3) c3 rfl), D9]
    simp only [ob2, Option.bind_some]
    rw [if_pos (s_is S9), show f_X5_intAt cy b 0 _ = _ from I9]
    simp only [ob2, Option.bind_some]
    rw [if_pos (t_o (i := 3) c3 rfl), D9]
    simp only [ob2, Option.bind_some]
    rw [t_w (i := 3) (f := 7) c3 rfl (Nat.le_of_ble_eq_true rfl), Option.bind_some]
    rw [show i4 e5 0 = 5 by decide +kernel]
    have key : ∀ n, f_X0_findStarts_L31 cy (n + 1) (b + 2) b (0 + 5 - 1) (0 + 4) 0 (MZL z μ0 (l ++ [shO b d, spO (b + 1) 5, .inl (cy 1, 2400, .inl e5), cuO b, aZ cy 24, aZ cy 24, aZ cy 24, aZ cy 24, aZ cy 1201])) = some (MZL z μ0 (l ++ blk cy b d)) := by
      intro n
      rw [f_X0_findStarts_L31, if_neg (by decide +kernel), if_pos (by decide +kernel)]
      unfold f_X0_findStarts_L85
      rw [t_r (i := 3) (f := 6) (v := b + 7) c3 rfl rfl, Option.bind_some, t_i (i := 3) (f := 7) (v := 0) c3 rfl rfl, Option.bind_some, t_a (i := 8) (n := 1201) (h := fun _ => 0) (by rw [hb]; rfl) rfl (by decide), Option.bind_some]
      show some (MZL z μ0 (l ++ [shO b d, spO (b + 1) 5, .inl (cy 1, 2400, .inl e5), cuO b, aZ cy 24, aZ cy 24, aZ cy 24, aZ cy 24, .inl (cy 1, 1201, .inl (upd (fun _ => 0) 0 (0 + 5 - 1)))])) = _
      rw [u04]
      rfl
    exact key 99999
  rw [FS, Option.bind_some, if_pos (t_o (i := 3) (t := blk cy b d) c3 rfl)]
  unfold f_X0_toNumberOrLast
  rw [t_i (i := 3) (f := 7) (v := 0) (t := blk cy b d) c3 rfl rfl, Option.bind_some, t_w (i := 3) (f := 5) (t := blk cy b d) c3 rfl (Nat.le_of_ble_eq_true rfl), Option.bind_some, Option.bind_some, Option.bind_some]
  rw [show (if (0 : Int32) - 1 < 0 then (0 : Int32) - 1 else 0) = -1 by decide +kernel]
  rfl
