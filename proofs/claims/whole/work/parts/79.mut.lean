/-! Calls that change a table. -/
theorem bmb {n : Nat} (h : n ≤ 5) : bm 802 n ≤ 5000 ∧ 802 ≤ bm 802 n ∧ bm (bm 802 n) n ≤ 30000 := by
  have h1 := bm5 (M := 802) (by decide) h
  have h2 := bm_big (M := 802) (by decide) n
  have h3 := bm5 (M := bm 802 n) (by omega) h
  omega
theorem wM1 {i : Nat} (h : i < 1000) : mj_w ((i : Int) - 1 + 1) = (i : Int) := by unfold mj_w; omega
theorem zwt_c {f g : mj_F} {p n l : Nat} {q : Int × Mt} (h : ∀ k, k ≤ 12 → g (p + k) = f (p + k)) : zwt g p n l q = zwt f p n l q := by
  have e1 : ∀ l q, zkl g p n l q = zkl f p n l q := fun l q => by unfold zkl; rw [h 4 (by omega), zkr_c h]
  unfold zwt
  rw [e1, e1]
theorem zbk_c {f g : mj_F} {p n e l : Nat} {q : Int × Mt} (h : ∀ k, k ≤ 12 → g (p + k) = f (p + k)) : zbk g p n e l q = zbk f p n e l q := by
  have e1 : ∀ l q, zkl g p n l q = zkl f p n l q := fun l q => by unfold zkl; rw [h 4 (by omega), zkr_c h]
  have e2 : ∀ m q, zb1 g p n e m q = zb1 f p n e m q := fun m q => by unfold zb1; rw [h 11 (by omega), h 12 (by omega)]
  have e3 : ∀ m C, zbf g p n e m C = zbf f p n e m C := fun m C => by unfold zbf; rw [h 11 (by omega)]
  unfold zbk
  rw [e1, e1, e2, e3, h 10 (by omega)]
section MU
variable {sw : Bool} {w : mj_W}
theorem ok_reset (hw : wk sw w) {f : mj_F} (r : RR sw f) (x1 x2 x3 : Int) : Ok sw w f yX_reset yM_reset [.inl x1, .inl x2, .inl x3] := by
  obtain ⟨c, np, ne, st, N, L, nx, d, tp, ed, r⟩ := r
  obtain ⟨⟨hc4, hn8, he16, _, _⟩, ⟨_, xc, mc, xp, mp, xe, me, xs, ms⟩, hL, hE, h0, hg⟩ := r.1
  have xn := r.2.2.1.2.1
  have mn := r.2.2.1.2.2.1
  have hN := r.2.2.1.1
  have mc' : mj_u f 223 0 0 223 2 = (c : Int) := mc
  have mp' : mj_u f 223 0 0 223 3 = (np : Int) := mp
  have me' : mj_u f 223 0 0 223 4 = (ne : Int) := me
  have mn' : mj_u f 223 0 0 223 23 = (N : Int) := mn
  by_cases hV : (0 ≤ x1 ∧ x1 < 4) ∧ (0 ≤ x2 ∧ x2 < (c : Int)) ∧ 0 ≤ x3 ∧ x3 ≤ 50
  · obtain ⟨t, rfl⟩ : ∃ t : Nat, x1 = (t : Int) := ⟨x1.toNat, by omega⟩
    obtain ⟨x, rfl⟩ : ∃ x : Nat, x2 = (x : Int) := ⟨x2.toNat, by omega⟩
    have ht : t < 4 := by omega
    have hb := (r.2.1 t ht).2
    have T0 := TS_set (c := x + 1) (k := x3) (by omega) (by omega) ⟨by omega, by omega⟩ (by decide) (by decide) hb
    obtain ⟨F1, a, s1, s2, s3⟩ := op_ok hw r ht (q := (f (215 + 2 * t) 2, zas (c + 1) (x + 1) (am x3) (am (mj_w (-x3))) (gm (216 + 2 * t) 6 f))) (TS_01 T0).1
    obtain ⟨ga, gp, gm', g3⟩ := id s2
    have mcG := ga.2.1.2.2.1
    have mpG := ga.2.1.2.2.2.2.1
    have meG := ga.2.1.2.2.2.2.2.2.1
    obtain ⟨r', l1, l2⟩ := loadT hw r.2.1 s2 ht
    have T1 := TS_set (c := x + 1) (k := x3) (by omega) (by omega) ⟨by omega, by omega⟩ (by decide) (by decide) l2
    obtain ⟨F3, m1, m2⟩ := s3 _ _ T1
    refine ⟨F1, F3, a, ?_, ?_, m2⟩
    · simp only [c_X_reset hw, X_isTable hw, X_isClock hw f xc, mj_bi_some, i01]
      rw [if_neg (by omega), if_neg (by omega), if_neg (by omega), if_pos (by omega), mj_gd_pos ⟨by omega, by omega⟩, Int.toNat_natCast, bec hw r ht, mj_bu_some]
      rw [wS (by omega), Z_assign hw zn32 f (by omega) (by omega) (by omega), mj_bu_some, s1, mj_bi_some]
    · simp only [c_M_reset hw, M_isTable hw, M_isClock hw _ mcG (by omega), M_isIn hw, mj_bi_some, i01]
      rw [if_neg (by omega), if_neg (by omega), if_pos (by omega), l1, mj_bu_some]
      rw [wS (by omega), R_sets hw _ (by omega) (by omega) (by omega), mj_bu_some, m1, mj_bi_some]
  · refine Ok_i ⟨c, np, ne, st, N, L, nx, d, tp, ed, r⟩ (F1 := f) (F3 := mj_u f 223 0 0) (v := -1) ?_ (Cor_r _ _) ?_ Cor_0
    · simp only [c_X_reset hw, X_isTable hw, X_isClock hw f xc, mj_bi_some, i01]
      repeat' split
      all_goals first | rfl | (exfalso; omega)
    · simp only [c_M_reset hw, M_isTable hw, M_isClock hw _ mc' (by omega), M_isIn hw, mj_bi_some, i01]
      repeat' split
      all_goals first | rfl | (exfalso; omega)
theorem ok_free (hw : wk sw w) {f : mj_F} (r : RR sw f) (x1 x2 : Int) : Ok sw w f yX_free yM_free [.inl x1, .inl x2] := by
  obtain ⟨c, np, ne, st, N, L, nx, d, tp, ed, r⟩ := r
  obtain ⟨⟨hc4, hn8, he16, _, _⟩, ⟨_, xc, mc, xp, mp, xe, me, xs, ms⟩, hL, hE, h0, hg⟩ := r.1
  have xn := r.2.2.1.2.1
  have mn := r.2.2.1.2.2.1
  have hN := r.2.2.1.1
  have mc' : mj_u f 223 0 0 223 2 = (c : Int) := mc
  have mp' : mj_u f 223 0 0 223 3 = (np : Int) := mp
  have me' : mj_u f 223 0 0 223 4 = (ne : Int) := me
  have mn' : mj_u f 223 0 0 223 23 = (N : Int) := mn
  by_cases hV : (0 ≤ x1 ∧ x1 < 4) ∧ (0 ≤ x2 ∧ x2 < (c : Int))
  · obtain ⟨t, rfl⟩ : ∃ t : Nat, x1 = (t : Int) := ⟨x1.toNat, by omega⟩
    obtain ⟨x, rfl⟩ : ∃ x : Nat, x2 = (x : Int) := ⟨x2.toNat, by omega⟩
    have ht : t < 4 := by omega
    have hb := (r.2.1 t ht).2
    have T0 := TS_fre (c := x + 1) (by omega) (by omega) (by decide) hb
    obtain ⟨F1, a, s1, s2, s3⟩ := op_ok hw r ht (q := (f (215 + 2 * t) 2, zfr (c + 1) (x + 1) (gm (216 + 2 * t) 6 f))) (TS_01 T0).1
    obtain ⟨ga, gp, gm', g3⟩ := id s2
    have mcG := ga.2.1.2.2.1
    have mpG := ga.2.1.2.2.2.2.1
    have meG := ga.2.1.2.2.2.2.2.2.1
    obtain ⟨r', l1, l2⟩ := loadT hw r.2.1 s2 ht
    have T1 := TS_fre (c := x + 1) (by omega) (by omega) (by decide) l2
    obtain ⟨F3, m1, m2⟩ := s3 _ _ T1
    refine ⟨F1, F3, a, ?_, ?_, m2⟩
    · simp only [c_X_free hw, X_isTable hw, X_isClock hw f xc, mj_bi_some, i01]
      rw [if_neg (by omega), if_pos (by omega), mj_gd_pos ⟨by omega, by omega⟩, Int.toNat_natCast, bec hw r ht, mj_bu_some]
      rw [wS (by omega), Z_release hw zn32 f (by omega) (by omega) (by omega), mj_bu_some, s1, mj_bi_some]
    · simp only [c_M_free hw, M_isTable hw, M_isClock hw _ mcG (by omega), mj_bi_some, i01]
      rw [if_neg (by omega), if_pos (by omega), l1, mj_bu_some]
      rw [wS (by omega), R_frees hw _ (by omega) (by omega) (by omega), mj_bu_some, m1, mj_bi_some]
  · refine Ok_i ⟨c, np, ne, st, N, L, nx, d, tp, ed, r⟩ (F1 := f) (F3 := mj_u f 223 0 0) (v := -1) ?_ (Cor_r _ _) ?_ Cor_0
    · simp only [c_X_free hw, X_isTable hw, X_isClock hw f xc, mj_bi_some, i01]
      repeat' split
      all_goals first | rfl | (exfalso; omega)
    · simp only [c_M_free hw, M_isTable hw, M_isClock hw _ mc' (by omega), mj_bi_some, i01]
      repeat' split
      all_goals first | rfl | (exfalso; omega)
theorem ok_meet (hw : wk sw w) {f : mj_F} (r : RR sw f) (x1 x2 x3 x4 x5 : Int) : Ok sw w f yX_meet yM_meet [.inl x1, .inl x2, .inl x3, .inl x4, .inl x5] := by
  obtain ⟨c, np, ne, st, N, L, nx, d, tp, ed, r⟩ := r
  obtain ⟨⟨hc4, hn8, he16, _, _⟩, ⟨_, xc, mc, xp, mp, xe, me, xs, ms⟩, hL, hE, h0, hg⟩ := r.1
  have xn := r.2.2.1.2.1
  have mn := r.2.2.1.2.2.1
  have hN := r.2.2.1.1
  have mc' : mj_u f 223 0 0 223 2 = (c : Int) := mc
  have mp' : mj_u f 223 0 0 223 3 = (np : Int) := mp
  have me' : mj_u f 223 0 0 223 4 = (ne : Int) := me
  have mn' : mj_u f 223 0 0 223 23 = (N : Int) := mn
  by_cases hV : (0 ≤ x1 ∧ x1 < 4) ∧ ((-1 ≤ x2 ∧ x2 < (c : Int)) ∧ (-1 ≤ x3 ∧ x3 < (c : Int)) ∧ x2 ≠ x3) ∧ (0 ≤ x4 ∧ x4 ≤ 4) ∧ -100 ≤ x5 ∧ x5 ≤ 100
  · obtain ⟨t, rfl⟩ : ∃ t : Nat, x1 = (t : Int) := ⟨x1.toNat, by omega⟩
    obtain ⟨i, rfl⟩ : ∃ i : Nat, x2 = (i : Int) - 1 := ⟨(x2 + 1).toNat, by omega⟩
    obtain ⟨j, rfl⟩ : ∃ j : Nat, x3 = (j : Int) - 1 := ⟨(x3 + 1).toNat, by omega⟩
    have hbm := bmb (n := c + 1) (by omega)
    have ht : t < 4 := by omega
    have hb := (r.2.1 t ht).2
    have T0 := TS_meet (i := i) (j := j) (rel := x4) (x := x5) (by omega) (by omega) ⟨by omega, by omega⟩ ⟨by omega, by omega⟩ (by decide) (by omega) hb (Nat.le_refl _)
    obtain ⟨F1, a, s1, s2, s3⟩ := op_ok hw r ht (q := (zt (c + 1) j i (loB x4 x5) (zt (c + 1) i j (upB x4 x5) (f (215 + 2 * t) 2) (gm (216 + 2 * t) 6 f)).1 (zt (c + 1) i j (upB x4 x5) (f (215 + 2 * t) 2) (gm (216 + 2 * t) 6 f)).2)) (TS_01 T0).1
    obtain ⟨ga, gp, gm', g3⟩ := id s2
    have mcG := ga.2.1.2.2.1
    have mpG := ga.2.1.2.2.2.2.1
    have meG := ga.2.1.2.2.2.2.2.2.1
    obtain ⟨r', l1, l2⟩ := loadT hw r.2.1 s2 ht
    have T1 := TS_meet (i := i) (j := j) (rel := x4) (x := x5) (by omega) (by omega) ⟨by omega, by omega⟩ ⟨by omega, by omega⟩ (by decide) (by omega) l2 (Nat.le_refl _)
    obtain ⟨F3, m1, m2⟩ := s3 _ _ T1
    refine ⟨F1, F3, a, ?_, ?_, m2⟩
    · simp only [c_X_meet hw, X_isTable hw, X_isPair hw f xc, mj_bi_some, i01]
      rw [if_neg (by omega), if_neg (by omega), if_neg (by omega), if_pos (by omega), if_neg (by omega), if_pos (by omega), mj_gd_pos ⟨by omega, by omega⟩, Int.toNat_natCast, bec hw r ht, mj_bu_some]
      rw [wM1 (by omega), wM1 (by omega), Z_relate hw zn32 f (by omega) _ _ _ _ (by omega) (by omega), mj_bu_some, s1, mj_bi_some]
    · simp only [c_M_meet hw, M_isTable hw, M_arePair hw _ mcG (by omega), M_isIn hw, mj_bi_some, i01]
      rw [if_neg (by omega), if_neg (by omega), if_neg (by omega), if_pos (by omega), l1, mj_bu_some]
      rw [wM1 (by omega), wM1 (by omega), R_meets hw _ _ _ _ _ _ (by omega) (by omega), mj_bu_some, R_closes hw _ (by omega) (r'.1, rmt i j x4 x5 r'.2) (TS_01 l2).2.1, mj_bu_some, m1, mj_bi_some]
  · refine Ok_i ⟨c, np, ne, st, N, L, nx, d, tp, ed, r⟩ (F1 := f) (F3 := mj_u f 223 0 0) (v := -1) ?_ (Cor_r _ _) ?_ Cor_0
    · simp only [c_X_meet hw, X_isTable hw, X_isPair hw f xc, mj_bi_some, i01]
      repeat' split
      all_goals first | rfl | (exfalso; omega)
    · simp only [c_M_meet hw, M_isTable hw, M_arePair hw _ mc' (by omega), M_isIn hw, mj_bi_some, i01]
      repeat' split
      all_goals first | rfl | (exfalso; omega)
theorem ok_copy (hw : wk sw w) {f : mj_F} (r : RR sw f) (x1 x2 : Int) : Ok sw w f yX_copy yM_copy [.inl x1, .inl x2] := by
  obtain ⟨c, np, ne, st, N, L, nx, d, tp, ed, r⟩ := r
  obtain ⟨⟨hc4, hn8, he16, _, _⟩, ⟨_, xc, mc, xp, mp, xe, me, xs, ms⟩, hL, hE, h0, hg⟩ := r.1
  have xn := r.2.2.1.2.1
  have mn := r.2.2.1.2.2.1
  have hN := r.2.2.1.1
  have mc' : mj_u f 223 0 0 223 2 = (c : Int) := mc
  have mp' : mj_u f 223 0 0 223 3 = (np : Int) := mp
  have me' : mj_u f 223 0 0 223 4 = (ne : Int) := me
  have mn' : mj_u f 223 0 0 223 23 = (N : Int) := mn
  by_cases hV : (0 ≤ x1 ∧ x1 < 4) ∧ (0 ≤ x2 ∧ x2 < 4)
  · obtain ⟨t, rfl⟩ : ∃ t : Nat, x1 = (t : Int) := ⟨x1.toNat, by omega⟩
    obtain ⟨s, rfl⟩ : ∃ s : Nat, x2 = (s : Int) := ⟨x2.toNat, by omega⟩
    have ht : t < 4 := by omega
    have hs : s < 4 := by omega
    obtain ⟨F1, a, s1, s2, s3⟩ := op_ok hw r ht (q := (f (215 + 2 * s) 2, gm (216 + 2 * s) 6 f)) (TS_01 (r.2.1 s hs).2).1
    obtain ⟨r', l1, l2⟩ := loadT hw r.2.1 s2 hs
    obtain ⟨F3, m1, m2⟩ := s3 _ _ l2
    refine ⟨F1, F3, a, ?_, ?_, m2⟩
    · simp only [c_X_copy hw, X_isTable hw, mj_bi_some, i01]
      rw [if_neg (by omega), if_pos (by omega), mj_gd_pos ⟨by omega, by omega⟩, Int.toNat_natCast, bec hw r hs, mj_bu_some, s1, mj_bi_some]
    · simp only [c_M_copy hw, M_isTable hw, mj_bi_some, i01]
      rw [if_neg (by omega), if_pos (by omega), l1, mj_bu_some, m1, mj_bi_some]
  · refine Ok_i ⟨c, np, ne, st, N, L, nx, d, tp, ed, r⟩ (F1 := f) (F3 := mj_u f 223 0 0) (v := -1) ?_ (Cor_r _ _) ?_ Cor_0
    · simp only [c_X_copy hw, X_isTable hw, mj_bi_some, i01]
      repeat' split
      all_goals first | rfl | (exfalso; omega)
    · simp only [c_M_copy hw, M_isTable hw, mj_bi_some, i01]
      repeat' split
      all_goals first | rfl | (exfalso; omega)
theorem ok_stay (hw : wk sw w) {f : mj_F} (r : RR sw f) (x1 x2 : Int) : Ok sw w f yX_stay yM_stay [.inl x1, .inl x2] := by
  obtain ⟨c, np, ne, st, N, L, nx, d, tp, ed, r⟩ := r
  obtain ⟨⟨hc4, hn8, he16, _, _⟩, ⟨_, xc, mc, xp, mp, xe, me, xs, ms⟩, hL, hE, h0, hg⟩ := r.1
  have xn := r.2.2.1.2.1
  have mn := r.2.2.1.2.2.1
  have hN := r.2.2.1.1
  have mc' : mj_u f 223 0 0 223 2 = (c : Int) := mc
  have mp' : mj_u f 223 0 0 223 3 = (np : Int) := mp
  have me' : mj_u f 223 0 0 223 4 = (ne : Int) := me
  have mn' : mj_u f 223 0 0 223 23 = (N : Int) := mn
  by_cases hV : (0 ≤ x1 ∧ x1 < 4) ∧ (0 ≤ x2 ∧ x2 < (np : Int))
  · obtain ⟨t, rfl⟩ : ∃ t : Nat, x1 = (t : Int) := ⟨x1.toNat, by omega⟩
    obtain ⟨l, rfl⟩ : ∃ l : Nat, x2 = (l : Int) := ⟨x2.toNat, by omega⟩
    have hbm := bmb (n := c + 1) (by omega)
    have hl := hL l (by omega)
    have ht : t < 4 := by omega
    have hb := (r.2.1 t ht).2
    have T0 := TS_wait hl (by decide) (by omega) hb
    obtain ⟨F1, a, s1, s2, s3⟩ := op_ok hw r ht (q := (zwt f (pl sw) (c + 1) l (f (215 + 2 * t) 2, gm (216 + 2 * t) 6 f))) (TS_01 T0).1
    obtain ⟨ga, gp, gm', g3⟩ := id s2
    have mcG := ga.2.1.2.2.1
    have mpG := ga.2.1.2.2.2.2.1
    have meG := ga.2.1.2.2.2.2.2.2.1
    obtain ⟨r', l1, l2⟩ := loadT hw r.2.1 s2 ht
    have T1 := TS_wait (ga.2.2.1 l (by omega)) (by decide) (by omega) l2
    rw [zwt_c gp] at T1
    obtain ⟨F3, m1, m2⟩ := s3 _ _ T1
    refine ⟨F1, F3, a, ?_, ?_, m2⟩
    · simp only [c_X_stay hw, X_isTable hw, X_isPlace hw f xp, mj_bi_some, i01]
      rw [if_neg (by omega), if_pos (by omega), mj_gd_pos ⟨by omega, by omega⟩, Int.toNat_natCast, bec hw r ht, mj_bu_some]
      rw [Z_waitIn hw zn32 (pl_pn sw) f (by omega) (by omega) (by omega) (sL_okr (by omega) hl).1 (f (215 + 2 * t) 2, gm (216 + 2 * t) 6 f), mj_bu_some, s1, mj_bi_some]
    · simp only [c_M_stay hw, M_isTable hw, M_isPlace hw _ mpG (by omega), mj_bi_some, i01]
      rw [if_neg (by omega), if_pos (by omega), l1, mj_bu_some]
      rw [R_stays hw _ (by omega) (by omega) (by omega) (sL_okr (by omega) (ga.2.2.1 l (by omega))).2 r' (TS_01 l2).2.1, mj_bu_some, m1, mj_bi_some]
  · refine Ok_i ⟨c, np, ne, st, N, L, nx, d, tp, ed, r⟩ (F1 := f) (F3 := mj_u f 223 0 0) (v := -1) ?_ (Cor_r _ _) ?_ Cor_0
    · simp only [c_X_stay hw, X_isTable hw, X_isPlace hw f xp, mj_bi_some, i01]
      repeat' split
      all_goals first | rfl | (exfalso; omega)
    · simp only [c_M_stay hw, M_isTable hw, M_isPlace hw _ mp' (by omega), mj_bi_some, i01]
      repeat' split
      all_goals first | rfl | (exfalso; omega)
theorem ok_step (hw : wk sw w) {f : mj_F} (r : RR sw f) (x1 x2 : Int) : Ok sw w f yX_step yM_step [.inl x1, .inl x2] := by
  obtain ⟨c, np, ne, st, N, L, nx, d, tp, ed, r⟩ := r
  obtain ⟨⟨hc4, hn8, he16, _, _⟩, ⟨_, xc, mc, xp, mp, xe, me, xs, ms⟩, hL, hE, h0, hg⟩ := r.1
  have xn := r.2.2.1.2.1
  have mn := r.2.2.1.2.2.1
  have hN := r.2.2.1.1
  have mc' : mj_u f 223 0 0 223 2 = (c : Int) := mc
  have mp' : mj_u f 223 0 0 223 3 = (np : Int) := mp
  have me' : mj_u f 223 0 0 223 4 = (ne : Int) := me
  have mn' : mj_u f 223 0 0 223 23 = (N : Int) := mn
  by_cases hV : (0 ≤ x1 ∧ x1 < 4) ∧ (0 ≤ x2 ∧ x2 < (ne : Int))
  · obtain ⟨t, rfl⟩ : ∃ t : Nat, x1 = (t : Int) := ⟨x1.toNat, by omega⟩
    obtain ⟨e, rfl⟩ : ∃ e : Nat, x2 = (e : Int) := ⟨x2.toNat, by omega⟩
    obtain ⟨se, ss, k, l, hk, hl, _, _, tl, tl2⟩ := hE e (by omega)
    have hl' := hL l (by omega)
    have ht : t < 4 := by omega
    have hb := (r.2.1 t ht).2
    have T0 := TS_step (by omega) hl' se ss hb
    obtain ⟨F1, a, s1, s2, s3⟩ := op_ok hw r ht (q := (zst f (pl sw) (c + 1) e l (f (215 + 2 * t) 2, gm (216 + 2 * t) 6 f))) (TS_01 T0).1
    obtain ⟨ga, gp, gm', g3⟩ := id s2
    have mcG := ga.2.1.2.2.1
    have mpG := ga.2.1.2.2.2.2.1
    have meG := ga.2.1.2.2.2.2.2.2.1
    obtain ⟨r', l1, l2⟩ := loadT hw r.2.1 s2 ht
    have T1 := TS_step (by omega) (ga.2.2.1 l (by omega)) (ga.2.2.2.1 e (by omega)).1 (ga.2.2.2.1 e (by omega)).2.1 l2
    rw [zst_c gp] at T1
    obtain ⟨F3, m1, m2⟩ := s3 _ _ T1
    refine ⟨F1, F3, a, ?_, ?_, m2⟩
    · simp only [c_X_step hw, X_isTable hw, X_isEdge hw f xe, mj_bi_some, i01]
      rw [if_neg (by omega), if_pos (by omega), mj_gd_pos ⟨by omega, by omega⟩, Int.toNat_natCast, bec hw r ht, mj_bu_some]
      rw [Z_stepBy hw zn32 (pl_pn sw) f (by omega) (by omega) (by omega) (by omega) tl (sL_okr (by omega) hl').1 (sL_okr (by omega) se).1 (sS_ok (by omega) ss).1 (f (215 + 2 * t) 2, gm (216 + 2 * t) 6 f), mj_bu_some, s1, mj_bi_some]
    · simp only [c_M_step hw, M_isTable hw, M_isEdge hw _ meG (by omega), mj_bi_some, i01]
      rw [if_neg (by omega), if_pos (by omega), l1, mj_bu_some]
      rw [R_steps hw _ (by omega) (by omega) (by omega) (l := l) (by omega) (by rw [gm' 229 (by omega)]; exact tl2) (sL_okr (by omega) (ga.2.2.1 l (by omega))).2 (sL_okr (by omega) (ga.2.2.2.1 e (by omega)).1).2 (sS_ok (by omega) (ga.2.2.2.1 e (by omega)).2.1).2 r' (TS_01 l2).2.1, mj_bu_some, m1, mj_bi_some]
  · refine Ok_i ⟨c, np, ne, st, N, L, nx, d, tp, ed, r⟩ (F1 := f) (F3 := mj_u f 223 0 0) (v := -1) ?_ (Cor_r _ _) ?_ Cor_0
    · simp only [c_X_step hw, X_isTable hw, X_isEdge hw f xe, mj_bi_some, i01]
      repeat' split
      all_goals first | rfl | (exfalso; omega)
    · simp only [c_M_step hw, M_isTable hw, M_isEdge hw _ me' (by omega), mj_bi_some, i01]
      repeat' split
      all_goals first | rfl | (exfalso; omega)
theorem ok_back (hw : wk sw w) {f : mj_F} (r : RR sw f) (x1 x2 : Int) : Ok sw w f yX_back yM_back [.inl x1, .inl x2] := by
  obtain ⟨c, np, ne, st, N, L, nx, d, tp, ed, r⟩ := r
  obtain ⟨⟨hc4, hn8, he16, _, _⟩, ⟨_, xc, mc, xp, mp, xe, me, xs, ms⟩, hL, hE, h0, hg⟩ := r.1
  have xn := r.2.2.1.2.1
  have mn := r.2.2.1.2.2.1
  have hN := r.2.2.1.1
  have mc' : mj_u f 223 0 0 223 2 = (c : Int) := mc
  have mp' : mj_u f 223 0 0 223 3 = (np : Int) := mp
  have me' : mj_u f 223 0 0 223 4 = (ne : Int) := me
  have mn' : mj_u f 223 0 0 223 23 = (N : Int) := mn
  by_cases hV : (0 ≤ x1 ∧ x1 < 4) ∧ (0 ≤ x2 ∧ x2 < (ne : Int))
  · obtain ⟨t, rfl⟩ : ∃ t : Nat, x1 = (t : Int) := ⟨x1.toNat, by omega⟩
    obtain ⟨e, rfl⟩ : ∃ e : Nat, x2 = (e : Int) := ⟨x2.toNat, by omega⟩
    obtain ⟨se, ss, k, l, hk, hl, _, _, tl, tl2⟩ := hE e (by omega)
    have hl' := hL l (by omega)
    have ht : t < 4 := by omega
    have hb := (r.2.1 t ht).2
    have T0 := TS_back (by omega) hl' se ss hb
    obtain ⟨F1, a, s1, s2, s3⟩ := op_ok hw r ht (q := (zbk f (pl sw) (c + 1) e l (f (215 + 2 * t) 2, gm (216 + 2 * t) 6 f))) (TS_01 T0).1
    obtain ⟨ga, gp, gm', g3⟩ := id s2
    have mcG := ga.2.1.2.2.1
    have mpG := ga.2.1.2.2.2.2.1
    have meG := ga.2.1.2.2.2.2.2.2.1
    obtain ⟨r', l1, l2⟩ := loadT hw r.2.1 s2 ht
    have T1 := TS_back (by omega) (ga.2.2.1 l (by omega)) (ga.2.2.2.1 e (by omega)).1 (ga.2.2.2.1 e (by omega)).2.1 l2
    rw [zbk_c gp] at T1
    obtain ⟨F3, m1, m2⟩ := s3 _ _ T1
    refine ⟨F1, F3, a, ?_, ?_, m2⟩
    · simp only [c_X_back hw, X_isTable hw, X_isEdge hw f xe, mj_bi_some, i01]
      rw [if_neg (by omega), if_pos (by omega), mj_gd_pos ⟨by omega, by omega⟩, Int.toNat_natCast, bec hw r ht, mj_bu_some]
      rw [Z_stepBackBy hw zn32 (pl_pn sw) f (by omega) (by omega) (by omega) tl (sL_okr (by omega) hl').1 (sL_okr (by omega) se).1 (sS_ok (by omega) ss).1 (f (215 + 2 * t) 2, gm (216 + 2 * t) 6 f), mj_bu_some, s1, mj_bi_some]
    · simp only [c_M_back hw, M_isTable hw, M_isEdge hw _ meG (by omega), mj_bi_some, i01]
      rw [if_neg (by omega), if_pos (by omega), l1, mj_bu_some]
      rw [R_backs hw _ (by omega) (by omega) (l := l) (by omega) (by rw [gm' 229 (by omega)]; exact tl2) (sL_okr (by omega) (ga.2.2.1 l (by omega))).2 (sL_okr (by omega) (ga.2.2.2.1 e (by omega)).1).2 (sS_ok (by omega) (ga.2.2.2.1 e (by omega)).2.1).2 r' (TS_01 l2).2.1, mj_bu_some, m1, mj_bi_some]
  · refine Ok_i ⟨c, np, ne, st, N, L, nx, d, tp, ed, r⟩ (F1 := f) (F3 := mj_u f 223 0 0) (v := -1) ?_ (Cor_r _ _) ?_ Cor_0
    · simp only [c_X_back hw, X_isTable hw, X_isEdge hw f xe, mj_bi_some, i01]
      repeat' split
      all_goals first | rfl | (exfalso; omega)
    · simp only [c_M_back hw, M_isTable hw, M_isEdge hw _ me' (by omega), mj_bi_some, i01]
      repeat' split
      all_goals first | rfl | (exfalso; omega)
end MU
