/-! An edge's line, in both. -/
section LN4
variable {sw sw' : Bool} {w w' : mj_W}
theorem edge_both (hw : wk sw w) (hw' : wk sw' w') {T : Nat → Int} {n p b c np ne st ln : Nat} {k x t v sd : Int} {f g : mj_F} (tj : TJ f g T n p b k x t v) (hk : k = 7) (h33 : g 223 33 = 0) (pj : PJ (fr sw) f g c np ne st ln sd) : LO (fr sw) T n b ln w w' f g (mj_call yR_readEdge w f [.inr (.inl 3)]) (mj_call yM_lineHere w' g [.inr (.inl 223)]) := by
  have hP := fr5 sw
  have pj0 := pj
  obtain ⟨nj, ⟨hnp, hne, pb3⟩, pc, pd, qj⟩ := pj
  generalize hpb : ((st = 0 ∨ st < np) ∧ (sd = 0 ∨ sd = 1)) = PB at pb3
  obtain ⟨m0, m1, m2, m3, m4, m5, m6, m7, m8, m9⟩ := pc
  obtain ⟨tp, j1, j2, j3, j4, j5, j6, j7, j8, tk, j9, j10, j11⟩ := id tj
  have hk' := (TK_7 tk).1 hk
  have hb : b < p := j11 (by omega)
  clear j11
  rw [c_R_readEdge hw, c_M_lineHere hw', M_isWord hw' h33, mj_bi_some, j7, j8, if_neg (show ¬ (t = 1 ∧ v = 3554411) by omega), if_pos rfl, M_isWord hw' h33, mj_bi_some, j7, j8, if_neg (show ¬ (t = 1 ∧ v = 17171557) by omega), if_pos rfl, M_isWord hw' h33, mj_bi_some, j7, j8, if_pos hk', if_neg (show ¬ (1 : Int) = 0 by decide), m4, m5]
  by_cases h16 : (ne : Int) < 16
  rotate_left
  · refine ⟨cbad f 2, mbad g 2, 0, ?_, ?_, CF_b _ _, MF_b _ _, Or.inr ⟨rfl, BJ_b tj 2⟩⟩
    · rw [if_neg h16, R_fail hw, mj_bi_some, mj_gd_pos (by decide)]
    · rw [if_pos (show (16 : Int) ≤ (ne : Int) by omega), l_M_lineHere_182 hw', M_opens_n hw' h33, mj_bu_some]
      have e37 : mbad g 2 223 37 = (np : Int) := by rw [mbad_o _ _ (by omega)]; exact m3
      obtain ⟨y, hy⟩ := M_place_b hw' hnp e37 (mbad_33 _ _)
      rw [hy, mj_bi_some, hy, mj_bi_some, if_neg (by rw [mbad_33]; decide)]
  rw [if_pos h16, if_neg (show ¬ (16 : Int) ≤ (ne : Int) by omega), l_M_lineHere_182 hw', M_opens_y hw' h33 (by decide)]
  obtain ⟨f1, g1, p1, b1, k1, x1, t1, w1, a1, a2, a3, a4, a5, a6⟩ := adv_J hw hw' tp j1 j2 j10
  rw [a1, a2, mj_bu_some, mj_bu_some, mj_bu_some]
  have h33_1 : g1 223 33 = 0 := (a6.2 33 (by omega)).trans h33
  have pl1 := place_here hw hw' a3 h33_1 hnp (by rw [a5.1 _ (by omega)]; exact m2) ((a6.2 37 (by omega)).trans m3) (fun i hi => by rw [a5.1 _ (by omega), a6.1 _ (by omega)]; exact pd i hi)
  rcases pl1 with ⟨ia, hia, c1, c2⟩ | ⟨c1, y, c2⟩
  rotate_left
  · have e37 : mbad g1 1 223 37 = (np : Int) := by rw [mbad_o _ _ (by omega)]; exact (a6.2 37 (by omega)).trans m3
    obtain ⟨y2, hy2⟩ := M_place_b hw' hnp e37 (mbad_33 _ _)
    rw [c1, c2, mj_bi_some, mj_bi_some, if_neg (fun z => z rfl), R_fail hw, mj_bi_some, mj_gd_pos (by decide), hy2, mj_bi_some, if_neg (by rw [mbad_33]; decide)]
    exact ⟨_, _, 0, rfl, rfl, CF_t (CF_F a5) (CF_b _ _), MF_t (MF_F a6) (MF_b _ _), Or.inr ⟨rfl, BJ_b a3 1⟩⟩
  rw [c1, c2, mj_bi_some, if_pos (show ¬ (ia : Int) = -1 by omega)]
  obtain ⟨tp1, i1, i2, i3, i4, i5, i6, i7, i8, tk1, i9, i10, i11⟩ := id a3
  clear i11
  obtain ⟨f2, g2, p2, b2, k2, x2, t2, w2, s1, s2, s3, s4, s5, s6⟩ := adv_J hw hw' tp1 i1 i2 i10
  rw [s1, s2, mj_bu_some, mj_bu_some, mj_bi_some]
  have ac2 : Fc f f2 := Fc_t a5 s5
  have am2 : Fm g g2 := Fm_t a6 s6
  have h33_2 : g2 223 33 = 0 := (am2.2 33 (by omega)).trans h33
  have pl2 := place_here hw hw' s3 h33_2 hnp (by rw [ac2.1 _ (by omega)]; exact m2) ((am2.2 37 (by omega)).trans m3) (fun i hi => by rw [ac2.1 _ (by omega), am2.1 _ (by omega)]; exact pd i hi)
  rcases pl2 with ⟨ib, hib, d1, d2⟩ | ⟨d1, y, d2⟩
  rotate_left
  · rw [d1, d2, mj_bi_some, mj_bi_some, if_neg (fun z => z rfl), R_fail hw, mj_bi_some, mj_gd_pos (by decide), if_neg (by rw [mbad_33]; decide)]
    exact ⟨_, _, 0, rfl, rfl, CF_t (CF_F ac2) (CF_b _ _), MF_t (MF_F am2) (MF_b _ _), Or.inr ⟨rfl, BJ_b s3 1⟩⟩
  rw [d1, d2, mj_bi_some, if_pos (show ¬ (ib : Int) = -1 by omega)]
  obtain ⟨tp2, r1, r2, r3, r4, r5, r6, r7, r8, tk2, r9, r10, r11⟩ := id s3
  clear r11
  obtain ⟨f3, g3, p3, b3, k3, x3, t3, w3, o1, o2, o3, o4, o5, o6⟩ := adv_J hw hw' tp2 r1 r2 r10
  rw [o1, o2, mj_bu_some, mj_bu_some, mj_bi_some]
  have ac3 : Fc f f3 := Fc_t ac2 o5
  have am3 : Fm g g3 := Fm_t am2 o6
  have h33_3 : g3 223 33 = 0 := (am3.2 33 (by omega)).trans h33
  have e38 : g3 223 38 = (ne : Int) := (am3.2 38 (by omega)).trans m5
  have e3 : mj_u (mj_u f3 (fr sw + 8) ne (ia : Int)) (fr sw + 9) ne (ib : Int) (fr sw) 3 = (ne : Int) := by rw [u_o (by omega), u_o (by omega), ac3.1 _ (by omega)]; exact m4
  rw [if_pos h33_3, mj_gd_pos (by omega), mj_gd_pos (by omega), Int.toNat_natCast, e3, wS (by omega), X_edgeRules hw _ (show ne < 16 by omega), mj_bi_some, e38, w8N (by omega), c_M_whensHere hw', mj_gd_pos (by omega), Int.toNat_natCast, c_R_readWhens hw]
  generalize hfA : mj_u (mj_u (mj_u f3 (fr sw + 8) ne (ia : Int)) (fr sw + 9) ne (ib : Int)) (fr sw) 3 ((ne + 1 : Nat) : Int) = fA
  have fo : ∀ a q, a ≠ 3 → ¬ (a = fr sw ∧ q = 3) → ¬ (a = fr sw + 8 ∧ q = ne) → ¬ (a = fr sw + 9 ∧ q = ne) → fA a q = f a q := fun a q h1 h2 h3 h4 => by
    rw [← hfA, u_o (by omega), u_o (by omega), u_o (by omega), ac3.1 a h1]
  have f3o : ∀ q, ¬ (4 ≤ q ∧ q ≤ 7) → fA 3 q = f 3 q := fun q h1 => by rw [← hfA, u_o (by omega), u_o (by omega), u_o (by omega), ac3.2 q h1]
  have v3 : fA (fr sw) 3 = ((ne + 1 : Nat) : Int) := by rw [← hfA, u_self]
  have v8 : fA (fr sw + 8) ne = (ia : Int) := by rw [← hfA, u_o (by omega), u_o (by omega), u_self]
  have v9 : fA (fr sw + 9) ne = (ib : Int) := by rw [← hfA, u_o (by omega), u_self]
  have go : ∀ a q, ¬ (a = 223 ∧ 27 ≤ q ∧ q ≤ 30) → ¬ (a = 243 ∧ q = 8 + ne) → mj_u g3 243 (8 + ne) 0 a q = g a q := fun a q h1 h2 => by
    rw [u_o (by omega)]
    by_cases z : a = 223
    · subst z; exact am3.2 q (by omega)
    · rw [am3.1 a z]
  have tj4 : TJ fA (mj_u g3 243 (8 + ne) 0) T n p3 b3 k3 x3 t3 w3 := TJ_w2 o3 (fun q h1 h2 => by rw [← hfA, u_o (by omega), u_o (by omega), u_o (by omega)]) (by funext q; rw [← hfA, u_o (by omega), u_o (by omega), u_o (by omega)]) (fun q h1 h2 => by rw [u_o (by omega)]) (by funext q; rw [u_o (by omega)])
  have nj4 : NJ fA (mj_u g3 243 (8 + ne) 0) (fr sw) c := by
    obtain ⟨n1, n2, n3, n4⟩ := nj
    refine ⟨n1, ?_, ?_, fun j hj => ?_⟩
    · rw [fo _ _ (by omega) (by omega) (by omega) (by omega)]; exact n2
    · rw [go _ _ (by omega) (by omega)]; exact n3
    · rw [fo _ _ (by omega) (by omega) (by omega) (by omega), go _ _ (by omega) (by omega)]; exact n4 j hj
  have lj4 : LJ fA (mj_u g3 243 (8 + ne) 0) (fr sw) c (8 + ne) 0 := by
    refine ⟨by omega, ?_, u_self, fun k hk => by omega⟩
    rw [fo _ _ (by omega) (by omega) (by omega) (by omega)]
    exact (qj.2.2.2.1 ne (Nat.le_refl _) (by omega)).1
  have gu4 : GU fA (fr sw) := by
    have z := qj.2.2.2.2
    unfold GU at z ⊢
    have e3 : fA (fr sw + 3) = f (fr sw + 3) := by funext q; exact fo _ _ (by omega) (by omega) (by omega) (by omega)
    have e4 : fA (fr sw + 4) = f (fr sw + 4) := by funext q; exact fo _ _ (by omega) (by omega) (by omega) (by omega)
    have e5 : fA (fr sw + 5) = f (fr sw + 5) := by funext q; exact fo _ _ (by omega) (by omega) (by omega) (by omega)
    have e7 : fA (fr sw + 7) = f (fr sw + 7) := by funext q; exact fo _ _ (by omega) (by omega) (by omega) (by omega)
    have e10 : fA (fr sw + 10) = f (fr sw + 10) := by funext q; exact fo _ _ (by omega) (by omega) (by omega) (by omega)
    have e11 : fA (fr sw + 11) = f (fr sw + 11) := by funext q; exact fo _ _ (by omega) (by omega) (by omega) (by omega)
    have e12 : fA (fr sw + 12) = f (fr sw + 12) := by funext q; exact fo _ _ (by omega) (by omega) (by omega) (by omega)
    rw [e3, e4, e5, e7, e10, e11, e12]
    exact z
  obtain ⟨f5, g5, r, e5, e6, e7, e8, e9⟩ := whens_both hw hw' (show 8 + ne < 24 by omega) 6 0 fA (mj_u g3 243 (8 + ne) 0) p3 b3 k3 x3 t3 w3 (.inr (.inr (.inr 0))) (.inr (.inr (.inr 0))) (.inr (.inr (.inr 0))) (.inr (.inr (.inr 0))) (.inr (.inr (.inr 0))) (.inr (.inr (.inr 0))) rfl tj4 (by rw [u_o (by omega)]; exact h33_3) nj4 lj4 gu4
  have e5' : mj_run yR_readWhens w fA 2 [.inr (.inl 3), .inl ((8 + ne : Nat) : Int), .inl 0, .inr (.inr (.inr 0)), .inr (.inr (.inr 0))] [] = some (w, f5, some (.inl r)) := e5
  rw [e5', mj_bi_some, e6, mj_bu_some]
  have cf5 : CF (fr sw) f f5 := by
    intro a q h1 h2
    rw [e7 a q h1 (by omega) (by omega) (by omega)]
    by_cases z : a = 3
    · subst z; exact f3o q (by omega)
    · exact fo a q z (by omega) (by omega) (by omega)
  have mf5 : MF g g5 := by
    intro a q h1 h2
    rw [e8 a q (by omega) (by omega) (by omega)]
    exact go a q (by omega) (by omega)
  have s38 : g5 223 38 = (ne : Int) := by rw [e8 _ _ (by omega) (by omega) (by omega), go _ _ (by omega) (by omega)]; exact m5
  have end230 : ∀ h : mj_F, h 223 38 = (ne : Int) → mj_run yM_lineHere w' h 230 [.inr (.inl 223), .inl (ia : Int), .inl (ib : Int)] [] = some (w', mj_u (mj_u (mj_u h 247 ne (ia : Int)) 248 ne (ib : Int)) 223 38 ((ne + 1 : Nat) : Int), none) := fun h hh => by
    have z1 : mj_u h 247 ne (ia : Int) 223 38 = (ne : Int) := by rw [u_o (by omega)]; exact hh
    have z2 : mj_u (mj_u h 247 ne (ia : Int)) 248 ne (ib : Int) 223 38 = (ne : Int) := by rw [u_o (by omega), u_o (by omega)]; exact hh
    rw [l_M_lineHere_230 hw']
    simp only [hh, Int.toNat_natCast, z1, z2]
    rw [mj_gd_pos (by omega), mj_gd_pos (by omega), wS (by omega), l_M_lineHere_312 hw']
  have mfE : ∀ h : mj_F, MF g h → MF g (mj_u (mj_u (mj_u h 247 ne (ia : Int)) 248 ne (ib : Int)) 223 38 ((ne + 1 : Nat) : Int)) := fun h z a q h1 h2 => by
    rw [u_o (by omega), u_o (by omega), u_o (by omega)]; exact z a q h1 h2
  have bjE : ∀ f' h : mj_F, BJ f' h → BJ f' (mj_u (mj_u (mj_u h 247 ne (ia : Int)) 248 ne (ib : Int)) 223 38 ((ne + 1 : Nat) : Int)) := fun f' h z => by
    refine ⟨?_, ?_, ?_⟩
    · rw [u_o (by omega), u_o (by omega), u_o (by omega)]; exact z.1
    · rw [u_o (by omega), u_o (by omega), u_o (by omega)]; exact z.2.1
    · rw [u_o (by omega), u_o (by omega), u_o (by omega)]; exact z.2.2
  rcases e9 with ⟨y1, y2, ⟨p', b', k', x', t', v', y3, y4⟩, y5, m', y6⟩ | ⟨y1, y2⟩
  rotate_left
  · rw [if_pos y1, if_pos (by rw [y2.1]; decide), end230 g5 s38]
    exact ⟨f5, _, 0, rfl, rfl, cf5, mfE g5 mf5, Or.inr ⟨rfl, bjE f5 g5 y2⟩⟩
  have s33 : g5 223 33 = 0 := y2.2.2.2.2
  rw [if_neg (by rw [y1]; decide), if_neg (fun z => z s33), s38, c_M_setsHere hw', mj_gd_pos (by omega), Int.toNat_natCast, c_R_readSets hw]
  have fo5 : ∀ a q, a ≠ 3 → ¬ (a = fr sw ∧ q = 3) → ¬ ((a = fr sw + 8 ∨ a = fr sw + 9) ∧ q = ne) → ¬ (a = fr sw + 3) → ¬ (a = fr sw + 4 ∧ q = 8 + ne) → ¬ (fr sw + 5 ≤ a ∧ a ≤ fr sw + 7 ∧ 6 * (8 + ne) ≤ q ∧ q < 6 * (8 + ne) + 6) → f5 a q = f a q := fun a q h1 h2 h3 h4 h5 h6 => by
    rw [e7 a q (by omega) h4 h5 h6]; exact fo a q h1 h2 (by omega) (by omega)
  have go5 : ∀ a q, ¬ (a = 223 ∧ 27 ≤ q ∧ q ≤ 33) → ¬ (a = 243 ∧ q = 8 + ne) → ¬ (244 ≤ a ∧ a ≤ 246 ∧ 6 * (8 + ne) ≤ q ∧ q < 6 * (8 + ne) + 6) → ¬ (a = 249 ∧ q = ne) → mj_u g5 249 ne 0 a q = g a q := fun a q h1 h2 h3 h4 => by
    rw [u_o (by omega), e8 a q h1 h2 h3]; exact go a q (by omega) h2
  have tj5 : TJ f5 (mj_u g5 249 ne 0) T n p' b' k' x' t' v' := TJ_w2 y3 (fun _ _ _ => rfl) rfl (fun q h1 h2 => by rw [u_o (by omega)]) (by funext q; rw [u_o (by omega)])
  have nj5 : NJ f5 (mj_u g5 249 ne 0) (fr sw) c := by
    obtain ⟨n1, n2, n3, n4⟩ := nj
    refine ⟨n1, ?_, ?_, fun j hj => ?_⟩
    · rw [fo5 _ _ (by omega) (by omega) (by omega) (by omega) (by omega) (by omega)]; exact n2
    · rw [go5 _ _ (by omega) (by omega) (by omega) (by omega)]; exact n3
    · rw [fo5 _ _ (by omega) (by omega) (by omega) (by omega) (by omega) (by omega), go5 _ _ (by omega) (by omega) (by omega) (by omega)]; exact n4 j hj
  have zj5 : ZJ f5 (mj_u g5 249 ne 0) (fr sw) c ne 0 := by
    refine ⟨by omega, ?_, u_self, fun k hk => by omega, fun k k' h1 h2 => by omega⟩
    rw [fo5 _ _ (by omega) (by omega) (by omega) (by omega) (by omega) (by omega)]
    exact (qj.2.2.2.1 ne (Nat.le_refl _) (by omega)).2
  have bt5 : BT (mj_u g5 249 ne 0) ne 0 0 := ⟨by decide, fun x _ => ⟨fun z => absurd z (by rw [Nat.zero_testBit]; decide), fun z => Exists.elim z (fun k hk => absurd hk.1 (Nat.not_lt_zero k))⟩⟩
  obtain ⟨f6, g6, rr, u5, u6, u7, u8, u9⟩ := sets_both hw hw' (show ne < 16 by omega) 4 0 f5 (mj_u g5 249 ne 0) p' b' 0 k' x' t' v' (.inr (.inr (.inr 0))) (.inr (.inr (.inr 0))) (.inr (.inr (.inr 0))) rfl tj5 (by rw [u_o (by omega)]; exact s33) nj5 zj5 bt5 y5
  have u5' : mj_run yR_readSets w f5 2 [.inr (.inl 3), .inl (ne : Int), .inl 0, .inr (.inr (.inr 0))] [] = some (w, f6, some (.inl rr)) := u5
  have u6' : mj_run yM_setsHere w' (mj_u g5 249 ne 0) 9 [.inr (.inl 223), .inl (ne : Int), .inl 0, .inr (.inr (.inr 0)), .inr (.inr (.inr 0))] [] = some (w', g6, none) := u6
  have s38_6 : g6 223 38 = (ne : Int) := by rw [u8 _ _ (by omega) (by omega) (by omega), u_o (by omega)]; exact s38
  rw [u5', mj_bi_some, u6', mj_bu_some, end230 g6 s38_6]
  have cf6 : CF (fr sw) f f6 := CF_t cf5 (CF_S u7)
  have mf6 : MF g g6 := by
    intro a q h1 h2
    rw [u8 a q (by omega) (by omega) (by omega), u_o (by omega)]
    exact mf5 a q h1 h2
  rcases u9 with ⟨z1, z2, ⟨p'', b'', k'', x'', t'', v'', z3, z4⟩, z5, m'', z6⟩ | ⟨z1, z2⟩
  rotate_left
  · rw [if_pos z1]
    exact ⟨f6, _, 0, rfl, rfl, cf6, mfE g6 mf6, Or.inr ⟨rfl, bjE f6 g6 z2⟩⟩
  clear tk tk1 tk2 hk' hk
  have fo6 : ∀ a q, a ≠ 3 → ¬ (a = fr sw ∧ q = 3) → ¬ ((a = fr sw + 8 ∨ a = fr sw + 9 ∨ a = fr sw + 10) ∧ q = ne) → ¬ (a = fr sw + 3) → ¬ (a = fr sw + 4 ∧ q = 8 + ne) → ¬ (fr sw + 5 ≤ a ∧ a ≤ fr sw + 7 ∧ 6 * (8 + ne) ≤ q ∧ q < 6 * (8 + ne) + 6 ∨ fr sw + 11 ≤ a ∧ a ≤ fr sw + 12 ∧ 4 * ne ≤ q ∧ q < 4 * ne + 4) → f6 a q = f a q := fun a q h1 h2 h3 h4 h5 h6 => by
    rw [u7 a q (by omega) h4 (by omega) (by omega)]; exact fo5 a q h1 h2 (by omega) h4 h5 (by omega)
  have go6 : ∀ a q, ¬ (a = 223 ∧ (27 ≤ q ∧ q ≤ 33 ∨ q = 38)) → ¬ (a = 243 ∧ q = 8 + ne) → ¬ (244 ≤ a ∧ a ≤ 246 ∧ 6 * (8 + ne) ≤ q ∧ q < 6 * (8 + ne) + 6 ∨ 250 ≤ a ∧ a ≤ 251 ∧ 4 * ne ≤ q ∧ q < 4 * ne + 4) → ¬ (247 ≤ a ∧ a ≤ 249 ∧ q = ne) → mj_u (mj_u (mj_u g6 247 ne (ia : Int)) 248 ne (ib : Int)) 223 38 ((ne + 1 : Nat) : Int) a q = g a q := fun a q h1 h2 h3 h4 => by
    rw [u_o (by omega), u_o (by omega), u_o (by omega), u8 a q (by omega) (by omega) (by omega)]; exact go5 a q (by omega) h2 (by omega) (by omega)
  rw [if_neg (by rw [z1]; decide)]
  refine ⟨_, _, 1, rfl, rfl, cf6, mfE g6 mf6, Or.inl ⟨rfl, ⟨?_, ?_, ?_, ?_, ?_⟩, ⟨p'', b'', k'', x'', t'', v'', TJ_w2 z3 (fun _ _ _ => rfl) rfl (fun q h1 h2 => by rw [u_o (by omega), u_o (by omega), u_o (by omega)]) (by funext q; rw [u_o (by omega), u_o (by omega), u_o (by omega)]), by omega⟩, c, np, ne + 1, st, sd, ?_⟩⟩
  · rw [z2.1, y2.1]; exact f3o 8 (by omega)
  · rw [z2.2.1, y2.2.1]; exact f3o 9 (by omega)
  · rw [u_o (by omega), u_o (by omega), u_o (by omega), z2.2.2.1, u_o (by omega), y2.2.2.1]; exact go _ _ (by omega) (by omega)
  · rw [u_o (by omega), u_o (by omega), u_o (by omega), z2.2.2.2.1, u_o (by omega), y2.2.2.2.1]; exact go _ _ (by omega) (by omega)
  · rw [u_o (by omega), u_o (by omega), u_o (by omega)]; exact z2.2.2.2.2
  · exact edge_end (by omega) pj0 hP.1 fo6 go6 (by rw [u7 _ _ (by omega) (by omega) (by omega) (by omega), e7 _ _ (by omega) (by omega) (by omega) (by omega)]; exact v3) u_self (LJ_p (fun a q h1 h2 h3 h4 => u7 _ _ (by omega) (by omega) (by omega) (by omega)) (fun a q h1 h2 h3 h4 => by rw [u_o (by omega), u_o (by omega), u_o (by omega), u8 a q (by omega) (by omega) (by omega), u_o (by omega)]) y6) (ZJ_p (fun _ _ _ _ _ _ => rfl) (fun a q h1 h2 h3 h4 => by rw [u_o (by omega), u_o (by omega), u_o (by omega)]) z6) hia hib (by rw [u7 _ _ (by omega) (by omega) (by omega) (by omega), e7 _ _ (by omega) (by omega) (by omega) (by omega)]; exact v8) (by rw [u_o (by omega), u_o (by omega), u_self]) (by rw [u7 _ _ (by omega) (by omega) (by omega) (by omega), e7 _ _ (by omega) (by omega) (by omega) (by omega)]; exact v9) (by rw [u_o (by omega), u_self]) z5
end LN4
