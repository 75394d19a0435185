/-! A place's line, in both. -/
section LN3
variable {sw sw' : Bool} {w w' : mj_W}
theorem place_both (hw : wk sw w) (hw' : wk sw' w') {T : Nat → Int} {n p b c np ne st ln : Nat} {k x t v sd : Int} {f g : mj_F} (tj : TJ f g T n p b k x t v) (hk : k = 6) (h33 : g 223 33 = 0) (pj : PJ (fr sw) f g c np ne st ln sd) : LO (fr sw) T n b ln w w' f g (mj_call yR_readPlace w f [.inr (.inl 3)]) (mj_call yM_lineHere w' g [.inr (.inl 223)]) := by
  have hP := fr5 sw
  obtain ⟨nj, pb, pc, pd, qj⟩ := pj
  obtain ⟨m0, m1, m2, m3, m4, m5, m6, m7, m8, m9⟩ := pc
  obtain ⟨tp, j1, j2, j3, j4, j5, j6, j7, j8, tk, j9, j10, j11⟩ := id tj
  have hk' := (TK_6 tk).1 hk
  have hb : b < p := j11 (by omega)
  have hnp := pb.1
  rw [c_R_readPlace hw, c_M_lineHere hw', M_isWord hw' h33, mj_bi_some, j7, j8, if_neg (show ¬ (t = 1 ∧ v = 3554411) by omega), if_pos rfl, M_isWord hw' h33, mj_bi_some, j7, j8, if_pos hk', if_neg (show ¬ (1 : Int) = 0 by decide), m2, m3]
  by_cases h8 : (np : Int) < 8
  rotate_left
  · refine ⟨cbad f 2, mbad g 2, 0, ?_, ?_, CF_b _ _, MF_b _ _, Or.inr ⟨rfl, BJ_b tj 2⟩⟩
    · rw [if_neg h8, R_fail hw, mj_bi_some, mj_gd_pos (by decide)]
    · rw [if_pos (show (8 : Int) ≤ (np : Int) by omega), l_M_lineHere_95 hw', M_opens_n hw' h33, mj_bu_some]
      have e37 : mbad g 2 223 37 = (np : Int) := by rw [mbad_o _ _ (by omega)]; exact m3
      obtain ⟨y, hy⟩ := M_fresh_b hw' (r := 242) (m := np) (g := mbad g 2) (k_242 hw') hnp (by omega) (mbad_33 _ _)
      rw [e37, hy, mj_bi_some, if_pos (by rw [mbad_33]; decide), l_M_lineHere_127 hw', if_neg (by rw [mbad_33]; decide)]
  rw [if_pos h8, if_neg (show ¬ (8 : Int) ≤ (np : Int) by omega), l_M_lineHere_95 hw', M_opens_y hw' h33 (by decide)]
  obtain ⟨f1, g1, p1, b1, k1, x1, t1, w1, a1, a2, a3, a4, a5, a6⟩ := adv_J hw hw' tp j1 j2 j10
  rw [a1, a2, mj_bu_some, mj_bu_some, mj_bu_some]
  have h33_1 : g1 223 33 = 0 := (a6.2 33 (by omega)).trans h33
  have e2 : f1 (fr sw) 2 = (np : Int) := by rw [a5.1 _ (by omega)]; exact m2
  have e37 : g1 223 37 = (np : Int) := (a6.2 37 (by omega)).trans m3
  have en : ∀ i, i < np → f1 (fr sw + 2) i = g1 242 i := fun i hi => by rw [a5.1 _ (by omega), a6.1 _ (by omega)]; exact pd i hi
  obtain ⟨tp1, i1, i2, i3, i4, i5, i6, i7, i8, tk1, i9, i10, i11⟩ := id a3
  have efi : fi (g1 242) w1 np = fi (f1 (fr sw + 2)) w1 np := (fi_c w1 en).symm
  rw [i3, e37]
  by_cases hn : k1 = 1
  rotate_left
  · have hs : ¬ nmH g1 := by unfold nmH; rw [i7, i8]; exact fun z => hn ((TK_1 tk1).2 z)
    obtain ⟨y, hy⟩ := M_fresh_1 hw' (r := 242) (m := np) (k_242 hw') hnp (by omega) h33_1 hs
    refine ⟨cbad f1 1, mbad g1 1, 0, ?_, ?_, CF_t (CF_F a5) (CF_b _ _), MF_t (MF_F a6) (MF_b _ _), Or.inr ⟨rfl, BJ_b a3 1⟩⟩
    · rw [if_neg hn, R_fail hw, mj_bi_some, mj_gd_pos (by decide)]
    · rw [hy, mj_bi_some, if_pos (by rw [mbad_33]; decide), l_M_lineHere_127 hw', if_neg (by rw [mbad_33]; decide)]
  have hs : nmH g1 := by unfold nmH; rw [i7, i8]; exact (TK_1 tk1).1 hn
  have ex : x1 = w1 := TK_1v tk1 hn
  rw [if_pos hn, c_L_placeNamed hw _ _ _ (fr_pn sw), e2, L_indexIn hw f1 (pn_k7 (fr_pn sw) hw) hnp (by omega), mj_bi_some, mj_bi_some, i6, ex]
  by_cases hf : fi (f1 (fr sw + 2)) w1 np = -1
  rotate_left
  · obtain ⟨y, hy⟩ := M_fresh_3 hw' (r := 242) (m := np) (k_242 hw') hnp (by omega) h33_1 hs (by rw [i8, efi]; exact hf)
    refine ⟨cbad f1 3, mbad g1 3, 0, ?_, ?_, CF_t (CF_F a5) (CF_b _ _), MF_t (MF_F a6) (MF_b _ _), Or.inr ⟨rfl, BJ_b a3 3⟩⟩
    · rw [if_neg hf, R_fail hw, mj_bi_some, mj_gd_pos (by decide)]
    · rw [hy, mj_bi_some, if_pos (by rw [mbad_33]; decide), l_M_lineHere_127 hw', if_neg (by rw [mbad_33]; decide)]
  rw [if_pos hf, e2, mj_gd_pos (by omega), Int.toNat_natCast, M_fresh_y hw' (r := 242) (m := np) (k_242 hw') hnp (by omega) h33_1 hs (by rw [i8, efi]; exact hf), u_o (show (fr sw) ≠ (fr sw) + 2 ∨ 2 ≠ np by omega), e2, wS (by omega), i8]
  have tpA : TP (mj_u (mj_u f1 (fr sw + 2) np w1) (fr sw) 2 ((np + 1 : Nat) : Int)) g1 T n := by
    obtain ⟨y1, y2, y3, y4, y5, y6⟩ := tp1
    refine ⟨y1, ?_, y3, fun q hq => ?_, y5, y6⟩
    · rw [u_o (by omega), u_o (by omega)]; exact y2
    · rw [u_o (by omega), u_o (by omega)]; exact y4 q hq
  obtain ⟨f4, g4, p4, b4, k4, x4, t4, w4, o1, o2, o3, o4, o5, o6⟩ := adv_J hw hw' tpA (by rw [u_o (by omega), u_o (by omega)]; exact i1) i2 i10
  rw [o1, o2, mj_bu_some, mj_bu_some, mj_bi_some]
  have h33_4 : g4 223 33 = 0 := (o6.2 33 (by omega)).trans h33_1
  have e4 : g4 223 37 = (np : Int) := (o6.2 37 (by omega)).trans e37
  have fo : ∀ a q, a ≠ 3 → ¬ (a = fr sw ∧ q = 2) → ¬ (a = fr sw + 2 ∧ q = np) → f4 a q = f a q := fun a q h1 h2 h3 => by
    rw [o5.1 a h1, u_o (by omega), u_o (by omega), a5.1 a h1]
  have f3o : ∀ q, ¬ (4 ≤ q ∧ q ≤ 7) → f4 3 q = f 3 q := fun q h1 => by rw [o5.2 q h1, u_o (by omega), u_o (by omega), a5.2 q h1]
  have am : Fm g g4 := Fm_t a6 o6
  rw [if_neg (fun z => z h33_4), X_stayRules hw, mj_bi_some, e4, c_M_whensHere hw', mj_gd_pos (by omega), Int.toNat_natCast, c_R_readWhens hw]
  have go : ∀ a q, ¬ (a = 223 ∧ 27 ≤ q ∧ q ≤ 30) → ¬ (a = 243 ∧ q = np) → mj_u g4 243 np 0 a q = g a q := fun a q h1 h2 => by
    rw [u_o (by omega)]
    by_cases z : a = 223
    · subst z; exact am.2 q (by omega)
    · rw [am.1 a z]
  have tj4 : TJ f4 (mj_u g4 243 np 0) T n p4 b4 k4 x4 t4 w4 := TJ_w2 o3 (fun _ _ _ => rfl) rfl (fun q h1 h2 => by rw [u_o (by omega)]) (by funext q; rw [u_o (by omega)])
  have nj4 : NJ f4 (mj_u g4 243 np 0) (fr sw) c := by
    obtain ⟨n1, n2, n3, n4⟩ := nj
    refine ⟨n1, ?_, ?_, fun j hj => ?_⟩
    · rw [fo _ _ (by omega) (by omega) (by omega)]; exact n2
    · rw [go _ _ (by omega) (by omega)]; exact n3
    · rw [fo _ _ (by omega) (by omega) (by omega), go _ _ (by omega) (by omega)]; exact n4 j hj
  have lj4 : LJ f4 (mj_u g4 243 np 0) (fr sw) c np 0 := by
    refine ⟨by omega, ?_, u_self, fun k hk => by omega⟩
    rw [fo _ _ (by omega) (by omega) (by omega)]
    exact qj.2.2.1 np (Nat.le_refl _) (by omega)
  have gu4 : GU f4 (fr sw) := GU_c (fun a h1 h2 => by funext q; exact fo _ _ (by omega) (by omega) (by omega)) qj.2.2.2.2
  obtain ⟨f5, g5, r, e5, e6, e7, e8, e9⟩ := whens_both hw hw' (show np < 24 by omega) 6 0 f4 (mj_u g4 243 np 0) p4 b4 k4 x4 t4 w4 (.inr (.inr (.inr 0))) (.inr (.inr (.inr 0))) (.inr (.inr (.inr 0))) (.inr (.inr (.inr 0))) (.inr (.inr (.inr 0))) (.inr (.inr (.inr 0))) rfl tj4 (by rw [u_o (by omega)]; exact h33_4) nj4 lj4 gu4
  have e5' : mj_run yR_readWhens w f4 2 [.inr (.inl 3), .inl (np : Int), .inl 0, .inr (.inr (.inr 0)), .inr (.inr (.inr 0))] [] = some (w, f5, some (.inl r)) := e5
  rw [e5', mj_bi_some, e6, mj_bu_some, l_M_lineHere_127 hw']
  have cf5 : CF (fr sw) f f5 := by
    intro a q h1 h2
    rw [e7 a q h1 (by omega) (by omega) (by omega)]
    by_cases z : a = 3
    · subst z; exact f3o q (by omega)
    · exact fo a q z (by omega) (by omega)
  have mf5 : MF g g5 := by
    intro a q h1 h2
    rw [e8 a q (by omega) (by omega) (by omega)]
    exact go a q (by omega) (by omega)
  rcases e9 with ⟨y1, y2, ⟨p', b', k', x', t', v', y3, y4⟩, y5, m', y6⟩ | ⟨y1, y2⟩
  rotate_left
  · refine ⟨f5, g5, 0, ?_, ?_, cf5, mf5, Or.inr ⟨rfl, y2⟩⟩
    · rw [y1, mj_gd_pos (by decide)]
    · rw [if_neg (by rw [y2.1]; decide)]
  have s33 : g5 223 33 = 0 := y2.2.2.2.2
  have s37 : g5 223 37 = (np : Int) := by rw [e8 _ _ (by omega) (by omega) (by omega)]; rw [go _ _ (by omega) (by omega)]; exact m3
  rw [y1, mj_gd_pos (by decide), if_pos s33, s37, mj_gd_pos (by omega), Int.toNat_natCast, u_o (show (223 : Nat) ≠ 242 ∨ 37 ≠ np by omega), s37, wS (by omega), l_M_lineHere_312 hw']
  have fo5 : ∀ a q, a ≠ 3 → ¬ (a = fr sw ∧ q = 2) → ¬ (a = fr sw + 2 ∧ q = np) → ¬ (a = fr sw + 3) → ¬ (a = fr sw + 4 ∧ q = np) → ¬ (fr sw + 5 ≤ a ∧ a ≤ fr sw + 7 ∧ 6 * np ≤ q ∧ q < 6 * np + 6) → f5 a q = f a q := fun a q h1 h2 h3 h4 h5 h6 => by
    rw [e7 a q (by omega) h4 h5 h6]; exact fo a q h1 h2 h3
  have go5 : ∀ a q, ¬ (a = 223 ∧ (27 ≤ q ∧ q ≤ 33 ∨ q = 37)) → ¬ (a = 242 ∧ q = np) → ¬ (a = 243 ∧ q = np) → ¬ (244 ≤ a ∧ a ≤ 246 ∧ 6 * np ≤ q ∧ q < 6 * np + 6) → mj_u (mj_u g5 242 np w1) 223 37 ((np + 1 : Nat) : Int) a q = g a q := fun a q h1 h2 h3 h4 => by
    rw [u_o (by omega), u_o (by omega), e8 a q (by omega) h3 h4]; exact go a q (by omega) h3
  refine ⟨_, _, 1, rfl, rfl, cf5, ?_, Or.inl ⟨rfl, ⟨?_, ?_, ?_, ?_, ?_⟩, ⟨p', b', k', x', t', v', TJ_w2 y3 (fun _ _ _ => rfl) rfl (fun q h1 h2 => by rw [u_o (by omega), u_o (by omega)]) (by funext q; rw [u_o (by omega), u_o (by omega)]), by omega⟩, c, np + 1, ne, st, sd, ?_⟩⟩
  · intro a q h1 h2
    rw [u_o (by omega), u_o (by omega)]
    exact mf5 a q h1 h2
  · rw [y2.1]; exact f3o 8 (by omega)
  · rw [y2.2.1]; exact f3o 9 (by omega)
  · rw [u_o (by omega), u_o (by omega), y2.2.2.1]; exact go _ _ (by omega) (by omega)
  · rw [u_o (by omega), u_o (by omega), y2.2.2.2.1]; exact go _ _ (by omega) (by omega)
  · rw [u_o (by omega), u_o (by omega)]; exact s33
  · obtain ⟨n1, n2, n3, n4⟩ := nj
    obtain ⟨q1, q2, q3, q4, q5⟩ := qj
    refine ⟨⟨n1, ?_, ?_, fun j hj => ?_⟩, ⟨by omega, pb.2.1, by omega, pb.2.2.2⟩, ⟨?_, ?_, ?_, u_self, ?_, ?_, ?_, ?_, ?_, ?_⟩, fun j hj => ?_, fun l hl => ?_, fun e he => ?_, fun l h1 h2 => ?_, fun e h1 h2 => ?_, y5⟩
    · rw [fo5 _ _ (by omega) (by omega) (by omega) (by omega) (by omega) (by omega)]; exact n2
    · rw [go5 _ _ (by omega) (by omega) (by omega) (by omega)]; exact n3
    · rw [fo5 _ _ (by omega) (by omega) (by omega) (by omega) (by omega) (by omega), go5 _ _ (by omega) (by omega) (by omega) (by omega)]; exact n4 j hj
    · rw [fo5 _ _ (by omega) (by omega) (by omega) (by omega) (by omega) (by omega)]; exact m0
    · rw [go5 _ _ (by omega) (by omega) (by omega) (by omega)]; exact m1
    · rw [e7 _ _ (by omega) (by omega) (by omega) (by omega), o5.1 _ (by omega), u_self]
    · rw [fo5 _ _ (by omega) (by omega) (by omega) (by omega) (by omega) (by omega)]; exact m4
    · rw [go5 _ _ (by omega) (by omega) (by omega) (by omega)]; exact m5
    · rw [fo5 _ _ (by omega) (by omega) (by omega) (by omega) (by omega) (by omega)]; exact m6
    · rw [go5 _ _ (by omega) (by omega) (by omega) (by omega)]; exact m7
    · rw [fo5 _ _ (by omega) (by omega) (by omega) (by omega) (by omega) (by omega)]; exact m8
    · rw [go5 _ _ (by omega) (by omega) (by omega) (by omega)]; exact m9
    · by_cases z : j = np
      · subst z
        rw [e7 _ _ (by omega) (by omega) (by omega) (by omega), o5.1 _ (by omega), u_o (by omega), u_self, u_o (by omega), u_self]
      · rw [fo5 _ _ (by omega) (by omega) (by omega) (by omega) (by omega) (by omega), go5 _ _ (by omega) (by omega) (by omega) (by omega)]
        exact pd j (by omega)
    · by_cases z : l = np
      · subst z
        exact ⟨m', LJ_p (fun _ _ _ _ _ _ => rfl) (fun a q h1 h2 _ _ => by rw [u_o (by omega), u_o (by omega)]) y6⟩
      · obtain ⟨m, a⟩ := q1 l (by omega)
        exact ⟨m, LJ_p (fun a q h1 h2 h3 h4 => fo5 _ _ (by omega) (by omega) (by omega) (by omega) (by omega) (by omega)) (fun a q h1 h2 h3 h4 => go5 _ _ (by omega) (by omega) (by omega) (by omega)) a⟩
    · obtain ⟨⟨m, a⟩, ⟨m1, a'⟩, u, u', d1, d2, d3, d4, d5, d6⟩ := q2 e he
      have he16 := pb.2.1
      refine ⟨⟨m, LJ_p (fun a q h1 h2 h3 h4 => fo5 _ _ (by omega) (by omega) (by omega) (by omega) (by omega) (by omega)) (fun a q h1 h2 h3 h4 => go5 _ _ (by omega) (by omega) (by omega) (by omega)) a⟩, ⟨m1, ZJ_p (fun a q h1 h2 h3 h4 => fo5 _ _ (by omega) (by omega) (by omega) (by omega) (by omega) (by omega)) (fun a q h1 h2 h3 h4 => go5 _ _ (by omega) (by omega) (by omega) (by omega)) a'⟩, u, u', by omega, by omega, ?_, ?_, ?_, ?_⟩
      · rw [fo5 _ _ (by omega) (by omega) (by omega) (by omega) (by omega) (by omega)]; exact d3
      · rw [go5 _ _ (by omega) (by omega) (by omega) (by omega)]; exact d4
      · rw [fo5 _ _ (by omega) (by omega) (by omega) (by omega) (by omega) (by omega)]; exact d5
      · rw [go5 _ _ (by omega) (by omega) (by omega) (by omega)]; exact d6
    · rw [fo5 _ _ (by omega) (by omega) (by omega) (by omega) (by omega) (by omega)]; exact q3 l (by omega) h2
    · have z := q4 e h1 h2
      refine ⟨?_, ?_⟩
      · rw [fo5 _ _ (by omega) (by omega) (by omega) (by omega) (by omega) (by omega)]; exact z.1
      · rw [fo5 _ _ (by omega) (by omega) (by omega) (by omega) (by omega) (by omega)]; exact z.2
end LN3
