/-! THE CALLS: find. The tape is used up first. -/
section KA5
variable {cy : Nat → ClassId} {iv : Nat → Option Nat} {ad : Nat → Nat} {μ0 : Mem} {J : Nat → Int32} {w : Nat} {B : Nat → Nat → Int32} {iw : Nat → Option Nat} {aw : Nat → Nat} {μ1 : Mem} {I : Nat → Int32} {V : Nat → Value} {A : Nat → Nat → Int32}
/-- behind useTapeUp: the class's memory, what was on the tape -/
theorem k_tape (hL : Lay6 iv ad) (R : REL J B I A) : ∃ J' B' n b, f_X6_useTapeUp cy (ad 0) (MC cy iv ad μ0 J w B) = some (MC cy iv ad μ0 J' w B') ∧ REL J' B' (upd I 2 0) A ∧ J' 2201 = nI n ∧ B' 23 = hb b ∧ bB b ∧ n ≤ 2000 ∧ I 2 = nI n ∧ ∀ j, j < n → A 1 j = sx (b j) := by
  obtain ⟨r1, r2, r3, r4, r5, r6, r7, r8, r9⟩ := R
  obtain ⟨n, b, a1, a2, a3, a4, a5, a6⟩ := r1
  obtain ⟨g, bg, g1, g2, g3, g4⟩ := r5
  obtain ⟨J', B', b', e1, e2, e3, e4, e5, e6, e7, e8, e9⟩ := g_tape (cy := cy) (μ0 := μ0) (w := w) hL a1 a2 a3 a4 g1 g4 g2 g3
  refine ⟨J', B', n, b', e1, ⟨⟨0, b, e2, e3, a3, by decide, upd_self', fun j hj => by omega⟩, r2.fr (e8 _ (by decide) (by decide)) (e8 _ (by decide) (by decide)) (upd_ne' (by decide)) (upd_ne' (by decide)), fun s hs => (r3 s hs).fr hs (fun k hk => e8 k (by omega) (by omega)) (fun k hk => e9 k (by omega)) rfl rfl rfl rfl rfl, r4.fr (e8 _ (by decide) (by decide)) (fun s hs f hf => e8 _ (by omega) (by omega)) rfl, ⟨n, b', e4, e5, e6, a4⟩, r6.fr (e8 _ (by decide) (by decide)) (e9 _ (by decide)), r7.fr (e8 _ (by decide) (by decide)) (e9 _ (by decide)), r8, r9.fr (fun k hk => e8 k (by omega) (by omega)) (fun k hk => e9 k (by omega)) (fun k k1 k2 => upd_ne' (by omega)) (fun _ _ => rfl)⟩, e4, e5, e6, a4, a5, fun j hj => by rw [e7 j hj]; exact a6 j hj⟩
theorem k_find (hL : Lay6 iv ad) (hW : Lay iw aw) (R0 : REL J B I A) (x : Int32) : ANS cy iv ad μ0 iw aw μ1 ["java/lang/IndexOutOfBoundsException"] (f_X6_find cy (ad 0) x (MC cy iv ad μ0 J w B)) (f_X8_find cy (aw 0) x (MR cy iw aw μ1 I V A)) := by
  unfold f_X6_find f_X8_find f_X6_find_L47 f_X8_find_L60
  obtain ⟨J1, B1, tn, tb, e1, R, g1, g2, g3, g4, i2, tA1⟩ := k_tape (cy := cy) (μ0 := μ0) (w := w) hL R0
  rw [if_pos (g_is hL), e1, Option.bind_some, if_pos (g_is hL), show rdI (MR cy iw aw μ1 I V A) (aw 0) 7 2 = some (I 2) from m_int hW rfl, Option.bind_some, m_put hW rfl (by decide), Option.bind_some, if_pos (r_is hW)]
  rcases sh4 x with ⟨s, hs, rfl⟩ | hx
  · obtain ⟨bs, n, G, d, m, at', S, hat, Rs⟩ := R.2.2.1 s hs
    have z := sS_s hs
    have a := shf_sp z.1
    have C := S.2.2.2.2
    have hn := S.2.2.2.1
    have W := C.2.2.2.2.2.2.2.2.2.1
    have hm := C.2.2.2.2.2.2.2.2.1
    obtain ⟨r, hD⟩ := C.2.2.2.2.2.2.2.2.2.2
    obtain ⟨N, X, ν, hi, m2, c, e2, tw, F⟩ := x_sr (cy := cy) (μ0 := μ1) (I := upd (upd I 2 0) 0 0) (V := V) hW (Or.inl ⟨rfl, rfl⟩ : isT 21 60) hs Rs S.2.2.1 W
    have em := tw.m W hD
    subst em
    have wn := tw.wn
    have SG : SP cy (MC cy iv ad μ0 J1 w B1) (ad 22) (ad (22 + 1)) (len6 (22 + 1)) tn (hb tb) (J1 (100 * 22 + 2)) := by
      have := SP6 (cy := cy) (μ0 := μ0) (w := w) (B := B1) (J := J1) (j := 22) (n := tn) hL rfl g1 g4
      rw [show B1 (22 + 1) = hb tb from g2] at this
      exact this
    have nn := C_numberOfName (cy := cy) (μ0 := μ0) (w := w) hL a.2.1 (S.sp hL z.1) SG C (Nat.zero_le tn) (Nat.le_refl _)
    have nn' : f_X0_numberOfName cy (ad (sC (90 + s))) (ad (sS (90 + s))) (ad 22) 0 (nI tn) (MC cy iv ad μ0 J1 w B1) = _ := nn
    have nm := x_named (cy := cy) (μ1 := μ1) (I := upd (upd I 2 0) 0 0) (N := N) F tA1 g3 g4 (Nat.zero_le tn) (Nat.le_refl _) tw.2.2.2.2 wn.2.1 wn.1
    have nm' : f_X8_named cy (aw 0) (nI (ν d)) 0 (nI tn) (MT cy iw aw μ1 (upd (upd I 2 0) 0 0) (updG V 60 (.ref (aw (50 + s)))) A 60 N X) = _ := nm
    rw [g_shelf hL hs, obX2_r, F_r1 hL z.1, Option.bind_some, F_r0 hL z.1, Option.bind_some, g_ref hL (k := 1) rfl, Option.bind_some, Option.bind_some, P_size (j := 22) (n := tn) hL rfl g1, Option.bind_some, if_pos (C_is hL a.2.1), nn', ob2_some, r_shelf hW hs, ob2_some, if_pos (show (0 : Int32) = 0 from rfl), m_ref hW rfl, Option.bind_some, m_ref hW rfl, Option.bind_some, m_docs hW hs, Option.bind_some, if_pos (m_tis hW (Or.inl ⟨rfl, rfl⟩)), e2, Option.bind_some, x_ref F (k := 21) rfl, Option.bind_some, if_pos (x_o F), x_stands F hs Rs W tw.2.1 tw.2.2.1 tw.2.2.2.1, ob2_some, if_pos (x_o F), i2, nm', ob2_some]
    cases ef : ffi (fun i => nmEq (hb bs) n (st (hb bs) n (wD (hb bs) n G d) i) (hb tb) 0 tn) 0 m2 with
    | none =>
      rw [if_pos (show zfI none = -1 from rfl), if_pos (show zfI none < 0 by decide)]
      exact ans_ok rfl rfl rfl (R.i0.t (by decide))
    | some i =>
      have hi' := ffi_some ef
      have ez : zfI (some i) = nI i := rfl
      have st := x_as (cy := cy) (μ0 := μ1) (I := upd (upd I 2 0) 0 0) (N := N) (X := X) (i := s) F 9 rfl (by decide) hs (nI i)
      rw [ez, if_neg (nI_m1 (by omega)), if_neg (show ¬ nI i < 0 from nI_nlt (b := 0) (Nat.zero_le _) (by omega)), F_r1 hL z.1, Option.bind_some, c_putC hL a.2.1 5 (Or.inr (Or.inl rfl)), Option.bind_some, x_ref F (k := 9) rfl, Option.bind_some, show wrA cy (MT cy iw aw μ1 (upd (upd I 2 0) 0 0) (updG V 60 (.ref (aw (50 + s)))) A 60 N X) 1 (aw 9) (nI s) (nI i) = _ from st, Option.bind_some]
      refine ans_ok rfl rfl rfl (R.sh hs ⟨bs, n, G, d, m2, nI i, S.at z.1, Or.inr ⟨i, by omega, rfl⟩, by rw [tA_out (by omega), updG_ne (by omega)]; exact Rs.1, ?_, ?_, ?_, ?_⟩ (fun k k1 k2 k3 k4 => upd_ne' (by omega)) (fun _ _ _ _ => rfl) (fun k k1 k2 => by rw [upd_ne' (by omega), upd_ne' (by omega)]) (fun j hj j1 j2 j3 j4 j5 => by unfold rlv at hj; rw [tA_out (by omega), updG_ne j3]) (fun j t hj ht => ?_))
      · rw [tA_out (by omega), updG_ne (by decide)]; exact Rs.2.1
      · intro k hk; rw [tA_out (by omega), updG_ne (by omega)]; exact Rs.2.2.1 k hk
      · rw [tA_out (by omega), updG_ne (by decide)]; exact Rs.2.2.2.1
      · rw [tA_out (by omega), updG_self, upd_self']
      · rw [tA_out (by omega)]
        by_cases j9 : j = 9
        · subst j9; rw [updG_self, upd_ne' ht]
        · rw [updG_ne j9]
  · rw [g_noShelf hx, obX2_l, r_noShelf hW hx, ob2_some, if_neg (show ¬ (1 : Int32) = 0 by decide)]
    exact ans_th 1 (by decide) (by decide) rfl rfl rfl rfl R.i0
end KA5
