/-! The sets of an edge are read, in both. -/
section SB2
variable {sw sw' : Bool} {w w' : mj_W}
theorem BT_c {g g' : mj_F} {e m τ : Nat} (h : g' 250 = g 250) (b : BT g e m τ) : BT g' e m τ := by
  unfold BT at b ⊢
  rw [h]
  exact b
theorem BT_and {g : mj_F} {e m τ i : Nat} (b : BT g e m τ) (hi : i < 4) : mj_and (mj_shr (τ : Int) (i : Int)) 1 = if τ.testBit i then 1 else 0 := bita_all ⟨τ, b.1⟩ ⟨i, hi⟩
theorem BT_S {g : mj_F} {e m τ i : Nat} {num : Int} (b : BT g e m τ) (hi : i < 4) : ∃ τ' : Nat, mj_or (τ : Int) (mj_shl 1 (i : Int)) = (τ' : Int) ∧ BT (BM g e m (i : Int) num) e (m + 1) τ' := by
  obtain ⟨a1, a2, a3⟩ := bor_all ⟨τ, b.1⟩ ⟨i, hi⟩
  refine ⟨_, a1, a2, fun x hx => ?_⟩
  have q := a3 ⟨x, hx⟩
  dsimp only at q
  rw [q, Bool.or_eq_true]
  constructor
  · rintro (z | z)
    · obtain ⟨k, k1, k2⟩ := (b.2 x hx).1 z
      refine ⟨k, by omega, ?_⟩
      rw [BM_0, if_neg (by omega)]
      exact k2
    · have z' : i = x := by have := of_decide_eq_true z; exact congrArg Fin.val this
      refine ⟨m, by omega, ?_⟩
      rw [BM_0, if_pos rfl, z']
  · rintro ⟨k, k1, k2⟩
    rw [BM_0] at k2
    by_cases y : 4 * e + k = 4 * e + m
    · rw [if_pos y] at k2
      right
      have : i = x := by omega
      subst this
      exact decide_eq_true rfl
    · rw [if_neg y] at k2
      left
      exact (b.2 x hx).2 ⟨k, by omega, k2⟩
theorem sets_both (hw : wk sw w) (hw' : wk sw' w') {T : Nat → Int} {n c e : Nat} (he : e < 16) : ∀ (d m : Nat) (f g : mj_F) (p b τ : Nat) (k x t v : Int) (u3 v3 v4 : mj_V), 4 - m = d → TJ f g T n p b k x t v → g 223 33 = 0 → NJ f g (fr sw) c → ZJ f g (fr sw) c e m → BT g e m τ → GU f (fr sw) → ∃ (f' g' : mj_F) (r : Int), mj_run yR_readSets w f 2 [.inr (.inl 3), .inl (e : Int), .inl (m : Int), u3] [] = some (w, f', some (.inl r)) ∧ mj_run yM_setsHere w' g 9 [.inr (.inl 223), .inl (e : Int), .inl (τ : Int), v3, v4] [] = some (w', g', none) ∧ SC (fr sw) e f f' ∧ SM e g g' ∧ ((r = 1 ∧ okF f f' g g' ∧ (∃ (p' b' : Nat) (k' x' t' v' : Int), TJ f' g' T n p' b' k' x' t' v' ∧ b ≤ b') ∧ GU f' (fr sw) ∧ ∃ m', ZJ f' g' (fr sw) c e m') ∨ (r = 0 ∧ BJ f' g')) := by
  have hP := fr5 sw
  intro d
  induction d with
  | zero =>
    intro m f g p b τ k x t v u3 v3 v4 hd tj h33 nj zj bt gu
    have hm : m = 4 := by have := zj.1; omega
    subst hm
    obtain ⟨tp, j1, j2, j3, j4, j5, j6, j7, j8, tk, j9⟩ := id tj
    rw [l_R_readSets_2 hw, if_neg (by decide), l_M_setsHere_9 hw', M_isWord hw' h33, mj_bi_some, j3, j7, j8]
    by_cases hk : k = 10
    · have hk' := (TK_10 tk).1 hk
      refine ⟨cbad f 2, mbad g 2, 0, ?_, ?_, SC_b _ _, SM_b _ _, Or.inr ⟨rfl, BJ_b tj 2⟩⟩
      · rw [if_neg (fun z => z hk), if_neg (fun z => z rfl), R_fail hw, mj_bi_some, mj_gd_pos (by decide)]
      · rw [if_pos hk', if_neg (by decide), mj_gd_pos (by omega), Int.toNat_natCast, zj.2.2.1, if_pos (by decide), l_M_setsHere_35 hw', M_opens_n hw' h33, mj_bu_some]
        have e36 : mbad g 2 223 36 = (c : Int) := by rw [mbad_o _ _ (by omega)]; exact nj.2.2.1
        rw [e36]
        obtain ⟨y, hy⟩ := M_seen_b hw' (r := 241) (m := c) (g := mbad g 2) (k_241 hw') nj.1 (by omega) (mbad_33 _ _)
        rw [hy, mj_bi_some, if_pos (by rw [mbad_33]; decide), sets_68 hw' (mbad_33 _ _)]
    · have hk' : ¬ (t = 1 ∧ v = 19636) := fun z => hk ((TK_10 tk).2 z)
      refine ⟨f, g, 1, ?_, ?_, fun _ _ _ _ _ _ => rfl, fun _ _ _ _ _ => rfl, Or.inl ⟨rfl, ⟨rfl, rfl, rfl, rfl, h33⟩, ⟨p, b, k, x, t, v, tj, Nat.le_refl _⟩, gu, 4, zj⟩⟩
      · rw [if_pos hk]
      · rw [if_neg hk', if_pos rfl]
  | succ d ih =>
    intro m f g p b τ k x t v u3 v3 v4 hd tj h33 nj zj bt gu
    have hm : m < 4 := by omega
    obtain ⟨tp, j1, j2, j3, j4, j5, j6, j7, j8, tk, j9, j10, j11⟩ := id tj
    rw [l_R_readSets_2 hw, if_neg (show ¬ (4 : Int) < (m : Int) by omega), l_M_setsHere_9 hw', M_isWord hw' h33, mj_bi_some, j3, j7, j8]
    by_cases hk : k = 10
    rotate_left
    · have hk' : ¬ (t = 1 ∧ v = 19636) := fun z => hk ((TK_10 tk).2 z)
      refine ⟨f, g, 1, ?_, ?_, fun _ _ _ _ _ _ => rfl, fun _ _ _ _ _ => rfl, Or.inl ⟨rfl, ⟨rfl, rfl, rfl, rfl, h33⟩, ⟨p, b, k, x, t, v, tj, Nat.le_refl _⟩, gu, m, zj⟩⟩
      · rw [if_pos hk]
      · rw [if_neg hk', if_pos rfl]
    have hk' := (TK_10 tk).1 hk
    rw [if_neg (fun z => z hk), if_pos (show ¬ (m : Int) = 4 by omega), if_pos hk', if_neg (show ¬ (1 : Int) = 0 by decide), mj_gd_pos (by omega), Int.toNat_natCast, zj.2.2.1, if_neg (show ¬ (4 : Int) ≤ (m : Int) by omega), l_M_setsHere_35 hw', M_opens_y hw' h33 (by decide)]
    obtain ⟨f1, g1, p1, b1, k1, x1, t1, w1, a1, a2, a3, a4, a5, a6⟩ := adv_J hw hw' tp j1 j2 j10
    rw [a1, a2, mj_bu_some, mj_bu_some, mj_bu_some]
    have h33_1 : g1 223 33 = 0 := (a6.2 33 (by omega)).trans h33
    have nj1 := NJ_F hP.1 a5 a6 nj
    have zj1 := ZJ_F hP.1 a5 a6 zj
    have bt1 : BT g1 e m τ := BT_c (a6.1 250 (by omega)) bt
    obtain ⟨tp1, i1, i2, i3, i4, i5, i6, i7, i8, tk1, i9, i10, i11⟩ := id a3
    rw [R_clockHere hw f1 nj1.1 nj1.2.1, mj_bi_some, i3, i6, nj1.2.2.1]
    have efi : fi (g1 241) w1 c = fi (f1 (fr sw + 1)) w1 c := (fi_c w1 nj1.2.2.2).symm
    by_cases hn : k1 = 1 ∧ ¬ fi (f1 (fr sw + 1)) w1 c = -1
    rotate_left
    · have hs : ¬ (nmH g1 ∧ ¬ fi (g1 241) (g1 223 30) c = -1) := by
        unfold nmH
        rw [i7, i8, efi]
        exact fun z => hn ⟨(TK_1 tk1).2 z.1, z.2⟩
      obtain ⟨y, hy⟩ := M_seen_n hw' (r := 241) (m := c) (k_241 hw') nj1.1 (by omega) h33_1 hs
      refine ⟨cbad f1 1, mbad g1 1, 0, ?_, ?_, SC_t (SC_F a5) (SC_b _ _), SM_t (SM_F a6) (SM_b _ _), Or.inr ⟨rfl, BJ_b a3 1⟩⟩
      · have e : (if k1 = 1 then fi (f1 (fr sw + 1)) x1 c else -1) = -1 := by
          by_cases z : k1 = 1
          · rw [if_pos z, TK_1v tk1 z]
            exact Classical.byContradiction fun y => hn ⟨z, y⟩
          · rw [if_neg z]
        rw [e, if_neg (fun z => z rfl), R_fail hw, mj_bi_some, mj_gd_pos (by decide)]
      · rw [hy, mj_bi_some, if_pos (by rw [mbad_33]; decide), sets_68 hw' (mbad_33 _ _)]
    have hs : nmH g1 := by unfold nmH; rw [i7, i8]; exact (TK_1 tk1).1 hn.1
    have hs2 : ¬ fi (g1 241) (g1 223 30) c = -1 := by rw [i8, efi]; exact hn.2
    rw [if_pos hn.1, TK_1v tk1 hn.1, if_pos hn.2, M_seen_y hw' (r := 241) (m := c) (k_241 hw') nj1.1 (by omega) hs hs2, mj_bi_some, if_neg (fun z => z h33_1), i8, efi]
    obtain ⟨i, hi, ei⟩ : ∃ i : Nat, i < c ∧ fi (f1 (fr sw + 1)) w1 c = (i : Int) := by
      rcases fi_r (f1 (fr sw + 1)) w1 c with z | z
      · exact absurd z hn.2
      · exact z
    have hc := nj.1
    have hi4 : i < 4 := by omega
    obtain ⟨r, hr1, hr2⟩ := L_numSet hw (fr_pn sw) f1 he zj1.1 zj1.2.1 (fun k hk => by rw [((zj1.2.2.2.1 k hk).1).2]; exact (zj1.2.2.2.1 k hk).2.2.1) (i : Int)
    have hr3 : r = -1 ↔ ¬ τ.testBit i = true := by
      rw [hr2, bt1.2 i hi4]
      constructor
      · intro z y
        obtain ⟨k, k1, k2⟩ := y
        exact z ⟨k, k1, by rw [((zj1.2.2.2.1 k k1).1).1]; exact k2⟩
      · intro z y
        obtain ⟨k, k1, k2⟩ := y
        exact z ⟨k, k1, by rw [← ((zj1.2.2.2.1 k k1).1).1]; exact k2⟩
    clear hr2
    rw [ei, hr1, mj_bi_some, BT_and bt1 hi4]
    by_cases hb : τ.testBit i = true
    · refine ⟨cbad f1 3, mbad g1 3, 0, ?_, ?_, SC_t (SC_F a5) (SC_b _ _), SM_t (SM_F a6) (SM_b _ _), Or.inr ⟨rfl, BJ_b a3 3⟩⟩
      · rw [if_neg (fun z => (hr3.1 z) hb), R_fail hw, mj_bi_some, mj_gd_pos (by decide)]
      · rw [if_pos hb, if_pos (by decide), l_M_setsHere_73 hw', M_must_0 hw' h33_1, mj_bu_some, if_pos (by rw [mbad_33]; decide), sets_88 hw' (mbad_33 _ _)]
    rw [if_pos (hr3.2 hb), if_neg hb, if_neg (show ¬ ¬ (0 : Int) = 0 by decide), l_M_setsHere_68 hw', l_M_setsHere_73 hw', M_must_1 hw' _ (by decide), mj_bu_some, if_neg (fun z => z h33_1)]
    clear hr1 hr3
    obtain ⟨f3, g3, p3, b3, k3, x3, t3, w3, d1, d2, d3, d4, d5, d6⟩ := adv_J hw hw' tp1 i1 i2 i10
    rw [d1, d2, mj_bu_some, mj_bu_some]
    have h33_3 : g3 223 33 = 0 := (d6.2 33 (by omega)).trans h33_1
    have nj3 := NJ_F hP.1 d5 d6 nj1
    have zj3 := ZJ_F hP.1 d5 d6 zj1
    have bt3 : BT g3 e m τ := BT_c (d6.1 250 (by omega)) bt1
    have ac3 : Fc f f3 := Fc_t a5 d5
    have am3 : Fm g g3 := Fm_t a6 d6
    obtain ⟨tp3, s1, s2, s3, s4, s5, s6, s7, s8, tk3, s9, s10, s11⟩ := id d3
    rw [l_M_setsHere_88 hw']
    by_cases hq : f3 3 5 = 2 ∧ f3 3 7 ≤ 50
    rotate_left
    · have ek : (g3 223 29 = 2) ↔ f3 3 5 = 2 := by rw [s7, s3]; exact (TK_2 tk3).symm
      have hq' : ¬ (g3 223 29 = 2 ∧ g3 223 30 ≤ 50) := by
        intro z
        have z1 := ek.1 z.1
        refine hq ⟨z1, ?_⟩
        rw [s3] at z1
        rw [s6]
        rw [s8] at z
        exact (TK_2v tk3 z1).1.2 z.2
      have e2 : (if g3 223 29 = 2 then (2 : Int) else 1) = if f3 3 5 = 2 then 2 else 1 := by
        by_cases z : f3 3 5 = 2
        · rw [if_pos z, if_pos (ek.2 z)]
        · rw [if_neg z, if_neg (fun y => z (ek.1 y))]
      obtain ⟨y, hy⟩ := M_number_n hw' h33_3 hq'
      rw [e2] at hy
      refine ⟨cbad f3 (if f3 3 5 = 2 then 2 else 1), mbad g3 (if f3 3 5 = 2 then 2 else 1), 0, ?_, ?_, SC_t (SC_F ac3) (SC_b _ _), SM_t (SM_F am3) (SM_b _ _), Or.inr ⟨rfl, BJ_b d3 _⟩⟩
      · rw [R_number_n hw hq, mj_bi_some, if_neg (fun z => z rfl)]
      · rw [hy, mj_bi_some, if_neg (by rw [mbad_33]; decide)]
    have hk3 : k3 = 2 := by rw [← s3]; exact hq.1
    have hx3 : x3 ≤ 50 := by rw [← s6]; exact hq.2
    obtain ⟨z1, z2⟩ := TK_2v tk3 hk3
    obtain ⟨z3, z4⟩ := z2 hx3
    rw [R_number_y hw hq.1 hq.2, mj_bi_some, if_pos (show ¬ (1 : Int) = 0 by decide), s6, M_number_y hw' h33_3 (s7.trans ((TK_2 tk3).1 hk3)) (by rw [s8]; exact z1.1 hx3), s8]
    rw [L_addSet hw (fr_pn sw) f3 he hm hi4 zj3.2.1, mj_bu_some]
    have tpA : TP (AS f3 (fr sw) e m i x3) g3 T n := by
      obtain ⟨y1, y2, y3, y4, y5, y6⟩ := tp3
      refine ⟨y1, ?_, y3, fun q hq => ?_, y5, y6⟩
      · rw [AS_o (by omega)]; exact y2
      · rw [AS_o (by omega)]; exact y4 q hq
    obtain ⟨f4, g4, p4, b4, k4, x4, t4, w4, o1, o2, o3, o4, o5, o6⟩ := adv_J hw hw' tpA (by rw [AS_o (by omega)]; exact s1) s2 s10
    rw [o1, o2, mj_bu_some, mj_bu_some, mj_bi_some]
    have h33_4 : g4 223 33 = 0 := (o6.2 33 (by omega)).trans h33_3
    have bt4 : BT g4 e m τ := BT_c (o6.1 250 (by omega)) bt3
    have e249 : g4 249 e = (m : Int) := by rw [o6.1 249 (by omega)]; exact zj3.2.2.1
    have r1 : mj_u g4 250 (4 * e + m) (i : Int) 249 e = (m : Int) := by rw [u_o (by omega)]; exact e249
    have r2 : mj_u (mj_u g4 250 (4 * e + m) (i : Int)) 251 (4 * e + m) w3 249 e = (m : Int) := by rw [u_o (by omega), u_o (by omega)]; exact e249
    rw [if_pos h33_4]
    simp only [Int.toNat_natCast, e249, ixS he hm, r1, r2]
    rw [mj_gd_pos (by omega), mj_gd_pos (by omega), mj_gd_pos (by omega), mj_gd_pos (by omega), mj_gd_pos (by omega), mj_gd_pos (by omega), wS (by omega)]
    have eBM : mj_u (mj_u (mj_u g4 250 (4 * e + m) (i : Int)) 251 (4 * e + m) w3) 249 e ((m + 1 : Nat) : Int) = BM g4 e m (i : Int) w3 := rfl
    obtain ⟨τ', t1', t2'⟩ := BT_S (num := w3) bt4 hi4
    rw [eBM, t1']
    clear t1'
    have tjn : TJ f4 (BM g4 e m (i : Int) w3) T n p4 b4 k4 x4 t4 w4 := TJ_wr o3 rfl rfl (by funext q; exact BM_o (by omega)) (by funext q; exact BM_o (by omega))
    have njn : NJ f4 (BM g4 e m (i : Int) w3) (fr sw) c := by
      obtain ⟨y1, y2, y3, y4⟩ := nj3
      refine ⟨y1, ?_, ?_, fun q hq => ?_⟩
      · rw [o5.1 _ (by omega), AS_o (by omega)]; exact y2
      · rw [BM_o (by omega), o6.2 36 (by omega)]; exact y3
      · rw [o5.1 _ (by omega), AS_o (by omega), BM_o (by omega), o6.1 241 (by omega)]; exact y4 q hq
    have znn : ∀ q : Nat, q < m → ¬ g4 250 (4 * e + q) = (i : Int) := fun q hq y => hb ((bt4.2 i hi4).2 ⟨q, hq, y⟩)
    have zjn : ZJ f4 (BM g4 e m (i : Int) w3) (fr sw) c e (m + 1) := by
      obtain ⟨y1, y2, y3, y4, y5⟩ := zj3
      refine ⟨by omega, ?_, ?_, fun q hq => ?_, fun q q' h1 h2 => ?_⟩
      · rw [o5.1 _ (by omega), AS_10, if_pos rfl]
      · rw [BM_9, if_pos rfl]
      · rw [o5.1 _ (by omega), o5.1 _ (by omega), AS_11, AS_12, BM_0, BM_1]
        by_cases z : q = m
        · rw [if_pos (by omega), if_pos (by omega), if_pos (by omega), if_pos (by omega)]
          exact ⟨⟨rfl, z3⟩, ⟨by omega, by omega⟩, z4, z1.1 hx3⟩
        · rw [if_neg (by omega), if_neg (by omega), if_neg (by omega), if_neg (by omega), o6.1 250 (by omega), o6.1 251 (by omega)]
          exact y4 q (by omega)
      · rw [BM_0, BM_0, if_neg (show ¬ 4 * e + q = 4 * e + m by omega)]
        by_cases z : q' = m
        · rw [if_pos (by omega)]; exact znn q (by omega)
        · rw [if_neg (by omega), o6.1 250 (by omega)]; exact y5 q q' h1 (by omega)
    have gun : GU f4 (fr sw) := by
      refine GU_c (f := AS f3 (fr sw) e m i x3) (fun a h1 h2 => o5.1 _ (by omega)) (GU_AS he hm zj3.2.1 (by omega) (GU_c (fun a h1 h2 => ac3.1 _ (by omega)) gu))
    obtain ⟨f', g', r, e1, e2, e3, e4, e5⟩ := ih (m + 1) f4 (BM g4 e m (i : Int) w3) p4 b4 τ' k4 x4 t4 w4 (.inl (i : Int)) (.inl (i : Int)) (.inl w3) (by omega) tjn (by rw [BM_o (by omega)]; exact h33_4) njn zjn t2' gun
    refine ⟨f', g', r, e1, e2, SC_t (SC_F ac3) (SC_t (SC_A hm _ _) (SC_t (SC_F o5) e3)), SM_t (SM_F am3) (SM_t (SM_F o6) (SM_t (SM_A hm) e4)), ?_⟩
    rcases e5 with ⟨y1, y2, ⟨p', b', k', x', t', v', y3, y4⟩, y5, y6⟩ | y
    · refine Or.inl ⟨y1, ?_, ⟨p', b', k', x', t', v', y3, by omega⟩, y5, y6⟩
      refine okF_t (okF_F ac3 am3 h33) (okF_t (f' := f4) (g' := BM g4 e m (i : Int) w3) ⟨?_, ?_, ?_, ?_, ?_⟩ y2)
      · rw [o5.2 8 (by omega), AS_o (by omega)]
      · rw [o5.2 9 (by omega), AS_o (by omega)]
      · rw [BM_o (by omega), o6.2 31 (by omega)]
      · rw [BM_o (by omega), o6.2 32 (by omega)]
      · rw [BM_o (by omega)]; exact h33_4
    · exact Or.inr y
end SB2
