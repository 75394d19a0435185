/-! tells, deepest, way. -/
theorem wON {o k : Nat} (h : o + k < 1000) : mj_w ((o : Int) + (k : Int)) = ((o + k : Nat) : Int) := by unfold mj_w; omega
theorem w8N {k : Nat} (h : k < 100) : mj_w (8 + (k : Int)) = ((8 + k : Nat) : Int) := by unfold mj_w; omega
section TE
variable {sw : Bool} {w : mj_W}
theorem L_listsWith (hw : wk sw w) {p : Nat} (hp : pn p) (f : mj_F) {n o m : Nat} (ho : o + m ≤ 24) (s : ∀ k, k < m → sL f p n (o + k)) (x : Int) : mj_call yL_listsWith w f [.inr (.inl p), .inl x, .inl (o : Int), .inl (m : Int)] = some (w, f, some (.inl (sgl (fun k => hrB f (o + k) (f 224 (o + k)).toNat x) m))) := by
  rw [c_L_listsWith hw _ _ _ _ _ hp]
  have h := loop_st (fun k => mj_run yL_listsWith w f 6 [.inr (.inl p), .inl x, .inl (o : Int), .inl (m : Int), .inl (sgl (fun k => hrB f (o + k) (f 224 (o + k)).toNat x) k), .inl (k : Int)] []) (Nat.zero_le m) (fun k _ hk => by
    rw [l_L_listsWith_6 hw _ _ _ _ _ _ _ hp, if_neg (by omega), wON (by omega), L_hasRuleOf hw hp f (by omega) (s k hk), mj_bi_some, wS (by omega)]
    by_cases hq : hrB f (o + k) (f 224 (o + k)).toNat x = true
    · rw [if_pos hq, if_neg (by decide), sgl_y (P := fun k => hrB f (o + k) (f 224 (o + k)).toNat x) hq]
    · rw [if_neg hq, if_pos rfl, sgl_n (P := fun k => hrB f (o + k) (f 224 (o + k)).toNat x) hq])
  refine h.trans ?_
  rw [l_L_listsWith_6 hw _ _ _ _ _ _ _ hp, if_pos (by omega)]
theorem L_edgesThatSet (hw : wk sw w) {p : Nat} (hp : pn p) (f : mj_F) {n m : Nat} (hm : m ≤ 16) (h3 : f p 3 = (m : Int)) (s : ∀ k, k < m → sS f p n k) (x : Int) : mj_call yL_edgesThatSet w f [.inr (.inl p), .inl x] = some (w, f, some (.inl (sgl (fun k => hsB f k (f 230 k).toNat x) m))) := by
  rw [c_L_edgesThatSet hw _ _ _ hp]
  have h := loop_st (fun k => mj_run yL_edgesThatSet w f 4 [.inr (.inl p), .inl x, .inl (sgl (fun k => hsB f k (f 230 k).toNat x) k), .inl (k : Int)] []) (Nat.zero_le m) (fun k _ hk => by
    obtain ⟨a1, a2, a3⟩ := L_numberSet hw hp f (show k < 16 by omega) (s k hk) x
    rw [l_L_edgesThatSet_4 hw _ _ _ _ _ hp, h3, if_neg (by omega), a1, mj_bi_some, wS (by omega)]
    by_cases hq : hsB f k (f 230 k).toNat x = true
    · rw [if_neg (fun q => by have := a2.1 q; rw [hq] at this; cases this), sgl_y (P := fun k => hsB f k (f 230 k).toNat x) hq]
    · rw [if_pos (a2.2 (Bool.eq_false_iff.mpr hq)), sgl_n (P := fun k => hsB f k (f 230 k).toNat x) hq])
  refine h.trans ?_
  rw [l_L_edgesThatSet_4 hw _ _ _ _ _ hp, h3, if_pos (by omega)]
theorem M_tells_0 (hw : wk sw w) {p : Nat} (f : mj_F) {n m : Nat} (hm : m ≤ 16) (h4 : f 223 4 = (m : Int)) (s : ∀ k, k < m → sL f p n (8 + k)) (x : Int) : mj_run yM_tells w f 29 [.inr (.inl 223), .inl x, .inl 0, .inl 0, .inl 0] [] = some (w, f, some (.inl (sgl (fun k => hrB f (8 + k) (f 224 (8 + k)).toNat x) m))) := by
  have h := loop_st (fun k => mj_run yM_tells w f 29 [.inr (.inl 223), .inl x, .inl 0, .inl (sgl (fun k => hrB f (8 + k) (f 224 (8 + k)).toNat x) k), .inl (k : Int)] []) (Nat.zero_le m) (fun k _ hk => by
    rw [l_M_tells_29 hw, if_pos (by decide), h4, if_neg (by omega), if_neg (by decide), w8N (by omega), M_hasWhen hw f (by omega) (s k hk), mj_bi_some, wS (by omega)]
    by_cases hq : hrB f (8 + k) (f 224 (8 + k)).toNat x = true
    · rw [if_pos hq, if_neg (by decide), sgl_y (P := fun k => hrB f (8 + k) (f 224 (8 + k)).toNat x) hq]
    · rw [if_neg hq, if_pos rfl, sgl_n (P := fun k => hrB f (8 + k) (f 224 (8 + k)).toNat x) hq, or_0r (sgl_rng _ k)])
  refine h.trans ?_
  rw [l_M_tells_29 hw, if_pos (by decide), h4, if_pos (by omega)]
theorem M_tells_1 (hw : wk sw w) {p : Nat} (f : mj_F) {n m : Nat} (hm : m ≤ 16) (h4 : f 223 4 = (m : Int)) (s : ∀ k, k < m → sS f p n k) (x : Int) : mj_run yM_tells w f 29 [.inr (.inl 223), .inl x, .inl 1, .inl 0, .inl 0] [] = some (w, f, some (.inl (sgl (fun k => hsB f k (f 230 k).toNat x) m))) := by
  have h := loop_st (fun k => mj_run yM_tells w f 29 [.inr (.inl 223), .inl x, .inl 1, .inl (sgl (fun k => hsB f k (f 230 k).toNat x) k), .inl (k : Int)] []) (Nat.zero_le m) (fun k _ hk => by
    rw [l_M_tells_29 hw, if_pos (by decide), h4, if_neg (by omega), if_pos (by decide), if_neg (by decide), M_hasSet hw f (by omega) (s k hk), mj_bi_some, wS (by omega)]
    by_cases hq : hsB f k (f 230 k).toNat x = true
    · rw [if_pos hq, if_neg (by decide), sgl_y (P := fun k => hsB f k (f 230 k).toNat x) hq]
    · rw [if_neg hq, if_pos rfl, sgl_n (P := fun k => hsB f k (f 230 k).toNat x) hq, or_0r (sgl_rng _ k)])
  refine h.trans ?_
  rw [l_M_tells_29 hw, if_pos (by decide), h4, if_pos (by omega)]
theorem M_tells_2 (hw : wk sw w) {p : Nat} (f : mj_F) {n m : Nat} (hm : m ≤ 8) (h3 : f 223 3 = (m : Int)) (s : ∀ k, k < m → sL f p n k) (x : Int) : mj_run yM_tells w f 29 [.inr (.inl 223), .inl x, .inl 2, .inl 0, .inl 0] [] = some (w, f, some (.inl (sgl (fun k => hrB f k (f 224 k).toNat x) m))) := by
  have h := loop_st (fun k => mj_run yM_tells w f 29 [.inr (.inl 223), .inl x, .inl 2, .inl (sgl (fun k => hrB f k (f 224 k).toNat x) k), .inl (k : Int)] []) (Nat.zero_le m) (fun k _ hk => by
    rw [l_M_tells_29 hw, if_neg (by decide), h3, if_neg (by omega), if_pos (by decide), if_pos (by decide), M_hasWhen hw f (by omega) (s k hk), mj_bi_some, wS (by omega)]
    by_cases hq : hrB f k (f 224 k).toNat x = true
    · rw [if_pos hq, if_neg (by decide), sgl_y (P := fun k => hrB f k (f 224 k).toNat x) hq]
    · rw [if_neg hq, if_pos rfl, sgl_n (P := fun k => hrB f k (f 224 k).toNat x) hq, or_0r (sgl_rng _ k)])
  refine h.trans ?_
  rw [l_M_tells_29 hw, if_neg (by decide), h3, if_pos (by omega)]
theorem ok_tells (hw : wk sw w) {f : mj_F} (r : RR sw f) (x1 x2 : Int) : Ok sw w f yX_tells yM_tells [.inl x1, .inl x2] := by
  obtain ⟨c, np, ne, st, N, L, nx, d, tp, ed, r⟩ := r
  obtain ⟨⟨hc4, hn8, he16, _, _⟩, ⟨_, xc, mc, xp, mp, xe, me, xs, ms⟩, hL, hE, h0, hg⟩ := r.1
  have xn := r.2.2.1.2.1
  have mn := r.2.2.1.2.2.1
  have hN := r.2.2.1.1
  have mc' : mj_u f 223 0 0 223 2 = (c : Int) := mc
  have mp' : mj_u f 223 0 0 223 3 = (np : Int) := mp
  have me' : mj_u f 223 0 0 223 4 = (ne : Int) := me
  have mn' : mj_u f 223 0 0 223 23 = (N : Int) := mn
  by_cases hV : (0 ≤ x1 ∧ x1 < (c : Int)) ∧ (0 ≤ x2 ∧ x2 ≤ 2)
  · have hx2 : x2 = 0 ∨ x2 = 1 ∨ x2 = 2 := by omega
    have RA0 := (RX_c Cor_0 r).1
    obtain ⟨_, _, kL, kE, _⟩ := RA0
    rcases hx2 with rfl | rfl | rfl
    · refine Ok_i ⟨c, np, ne, st, N, L, nx, d, tp, ed, r⟩ (F1 := f) (F3 := mj_u f 223 0 0) (v := sgl (fun k => hrB f (8 + k) (f 224 (8 + k)).toNat x1) ne) ?_ (Cor_r _ _) ?_ Cor_0
      · simp only [c_X_tells hw, X_isClock hw f xc, mj_bi_some, i01]
        rw [if_pos (by omega), if_pos trivial, xe, show (8 : Int) = ((8 : Nat) : Int) from rfl, L_listsWith hw (pl_pn sw) f (by omega) (fun k hk => (hE k hk).1), mj_bi_some]
      · simp only [c_M_tells hw, M_isClock hw _ mc' (by omega), M_isIn hw, mj_bi_some, i01]
        rw [if_neg (by omega), if_pos (by omega), M_tells_0 hw (mj_u f 223 0 0) he16 me' (fun k hk => (kE k hk).1)]
        rfl
    · refine Ok_i ⟨c, np, ne, st, N, L, nx, d, tp, ed, r⟩ (F1 := f) (F3 := mj_u f 223 0 0) (v := sgl (fun k => hsB f k (f 230 k).toNat x1) ne) ?_ (Cor_r _ _) ?_ Cor_0
      · simp only [c_X_tells hw, X_isClock hw f xc, mj_bi_some, i01]
        rw [if_pos (by omega), if_neg (by decide), if_pos trivial, L_edgesThatSet hw (pl_pn sw) f he16 xe (fun k hk => (hE k hk).2.1), mj_bi_some]
      · simp only [c_M_tells hw, M_isClock hw _ mc' (by omega), M_isIn hw, mj_bi_some, i01]
        rw [if_neg (by omega), if_pos (by omega), M_tells_1 hw (mj_u f 223 0 0) he16 me' (fun k hk => (kE k hk).2.1)]
        rfl
    · refine Ok_i ⟨c, np, ne, st, N, L, nx, d, tp, ed, r⟩ (F1 := f) (F3 := mj_u f 223 0 0) (v := sgl (fun k => hrB f k (f 224 k).toNat x1) np) ?_ (Cor_r _ _) ?_ Cor_0
      · have e0 : sgl (fun k => hrB f (0 + k) (f 224 (0 + k)).toNat x1) np = sgl (fun k => hrB f k (f 224 k).toNat x1) np := sgl_c np (fun k _ => by show hrB f (0 + k) (f 224 (0 + k)).toNat x1 = _; rw [Nat.zero_add])
        simp only [c_X_tells hw, X_isClock hw f xc, mj_bi_some, i01]
        rw [if_pos (by omega), if_neg (by decide), if_neg (by decide), if_pos trivial, xp, show (0 : Int) = ((0 : Nat) : Int) from rfl, L_listsWith hw (pl_pn sw) f (by omega) (fun k hk => by rw [Nat.zero_add]; exact hL k hk), mj_bi_some, e0]
      · simp only [c_M_tells hw, M_isClock hw _ mc' (by omega), M_isIn hw, mj_bi_some, i01]
        rw [if_neg (by omega), if_pos (by omega), M_tells_2 hw (mj_u f 223 0 0) hn8 mp' kL]
        rfl
  · refine Ok_i ⟨c, np, ne, st, N, L, nx, d, tp, ed, r⟩ (F1 := f) (F3 := mj_u f 223 0 0) (v := -1) ?_ (Cor_r _ _) ?_ Cor_0
    · simp only [c_X_tells hw, X_isClock hw f xc, mj_bi_some, i01]
      repeat' split
      all_goals first | rfl | (exfalso; omega)
    · simp only [c_M_tells hw, M_isClock hw _ mc' (by omega), M_isIn hw, mj_bi_some, i01]
      repeat' split
      all_goals first | rfl | (exfalso; omega)
theorem dp_same (hw : wk sw w) {f : mj_F} {c np ne st N : Nat} (rc : RC sw f c np ne st N) (h8 : np ≤ 8) (hp : f (pl sw) 2 = (np : Int)) (x1 : Int) (h01 : x1 = 0 ∨ x1 = 1) : ∃ b m m' : Int, mj_run yX_deepest w f 20 [.inr (.inl 2), .inl x1, .inl (-2), .inl (-2), .inl 0, .inr (.inr (.inr 0))] [] = some (w, f, some (.inl (if x1 = 0 then b else m))) ∧ (∀ g : mj_F, RC sw g c np ne st N → g 223 3 = (np : Int) → g 44 = f 44 → g 42 = f 42 → mj_run yM_deepest w g 22 [.inr (.inl 223), .inl x1, .inl (-2), .inl (-1), .inl 0, .inr (.inr (.inr 0))] [] = some (w, g, some (.inl (if x1 = 0 then b else m)))) := by
  have hN := rc.1
  have key : ∀ k, k ≤ np → ∃ b m m' : Int, (∃ u, mj_run yX_deepest w f 20 [.inr (.inl 2), .inl x1, .inl (-2), .inl (-2), .inl 0, .inr (.inr (.inr 0))] [] = mj_run yX_deepest w f 20 [.inr (.inl 2), .inl x1, .inl b, .inl m, .inl (k : Int), u] []) ∧ (∀ g : mj_F, RC sw g c np ne st N → g 223 3 = (np : Int) → g 44 = f 44 → g 42 = f 42 → ∃ u', mj_run yM_deepest w g 22 [.inr (.inl 223), .inl x1, .inl (-2), .inl (-1), .inl 0, .inr (.inr (.inr 0))] [] = mj_run yM_deepest w g 22 [.inr (.inl 223), .inl x1, .inl b, .inl m', .inl (k : Int), u'] []) ∧ ((b = -2 ∧ m = -2 ∧ m' = -1) ∨ (0 ≤ b ∧ 0 ≤ m ∧ m' = m)) := by
    intro k
    induction k with
    | zero => exact fun _ => ⟨-2, -2, -1, ⟨_, rfl⟩, fun _ _ _ _ _ => ⟨_, rfl⟩, Or.inl ⟨rfl, rfl, rfl⟩⟩
    | succ k ih =>
      intro hk
      obtain ⟨b, m, m', ⟨u, e1⟩, e2, h⟩ := ih (by omega)
      rcases rc.2.2.2.2 k (by omega) with ⟨a, _⟩ | ⟨j, hj, a, _, _⟩
      · refine ⟨b, m, m', ⟨.inl (-2), e1.trans ?_⟩, fun g rg g3 g44 g42 => ?_, h⟩
        · rw [l_X_deepest_20 hw, hp, if_neg (by omega), mj_gd_pos ⟨by omega, by omega⟩, Int.toNat_natCast, a, if_pos (by decide), wS (by omega)]
        · obtain ⟨u', e3⟩ := e2 g rg g3 g44 g42
          refine ⟨.inl (-1), e3.trans ?_⟩
          rw [l_M_deepest_22 hw, g3, if_neg (by omega), M_firstNode hw rg (show k < np by omega), mj_bi_some, g44, a, if_neg (by decide), if_neg (by omega), wS (by omega)]
      · obtain ⟨dd, d1, d2, _⟩ := M_depth hw rc hj
        have gj : (0 : Int) ≤ (j : Int) ∧ (j : Int) < ((60 : Nat) : Int) := ⟨by omega, by omega⟩
        by_cases hlt : (dd : Int) ≤ m
        · refine ⟨b, m, m', ⟨.inl (j : Int), e1.trans ?_⟩, fun g rg g3 g44 g42 => ?_, h⟩
          · rw [l_X_deepest_20 hw, hp, if_neg (by omega), mj_gd_pos ⟨by omega, by omega⟩, Int.toNat_natCast, a, if_neg (by omega), mj_gd_pos gj, Int.toNat_natCast, d1, if_pos hlt, wS (by omega)]
          · obtain ⟨u', e3⟩ := e2 g rg g3 g44 g42
            obtain ⟨d', d1', _, d3⟩ := M_depth hw rg hj
            have : d' = dd := by rw [g42, d1] at d1'; omega
            subst this
            refine ⟨.inl (d' : Int), e3.trans ?_⟩
            rw [l_M_deepest_22 hw, g3, if_neg (by omega), M_firstNode hw rg (show k < np by omega), mj_bi_some, g44, a, if_pos (by omega), M_firstNode hw rg (show k < np by omega), mj_bi_some, g44, a, d3, mj_bi_some, if_neg (by omega), wS (by omega)]
        · refine ⟨(k : Int), (dd : Int), (dd : Int), ⟨.inl (j : Int), e1.trans ?_⟩, fun g rg g3 g44 g42 => ?_, Or.inr ⟨by omega, by omega, rfl⟩⟩
          · rw [l_X_deepest_20 hw, hp, if_neg (by omega), mj_gd_pos ⟨by omega, by omega⟩, Int.toNat_natCast, a, if_neg (by omega), mj_gd_pos gj, Int.toNat_natCast, d1, if_neg hlt, mj_gd_pos gj, wS (by omega)]
          · obtain ⟨u', e3⟩ := e2 g rg g3 g44 g42
            obtain ⟨d', d1', _, d3⟩ := M_depth hw rg hj
            have : d' = dd := by rw [g42, d1] at d1'; omega
            subst this
            refine ⟨.inl (d' : Int), e3.trans ?_⟩
            rw [l_M_deepest_22 hw, g3, if_neg (by omega), M_firstNode hw rg (show k < np by omega), mj_bi_some, g44, a, if_pos (by omega), M_firstNode hw rg (show k < np by omega), mj_bi_some, g44, a, d3, mj_bi_some, if_pos (by omega), wS (by omega)]
  obtain ⟨b, m, m', ⟨u, e1⟩, e2, h⟩ := key np (Nat.le_refl np)
  refine ⟨b, m, m', e1.trans ?_, fun g rg g3 g44 g42 => ?_⟩
  · rw [l_X_deepest_20 hw, hp, if_pos (Int.le_refl _)]
    rcases h01 with rfl | rfl
    · rw [if_neg (by decide), if_pos rfl]
    · rw [if_pos (by decide), if_neg (by decide)]
  · obtain ⟨u', e3⟩ := e2 g rg g3 g44 g42
    refine e3.trans ?_
    rw [l_M_deepest_22 hw, g3, if_pos (Int.le_refl _)]
    rcases h01 with rfl | rfl
    · rw [if_pos rfl, if_pos rfl]
    · have h10 : ¬ (1 : Int) = 0 := by decide
      rw [if_neg h10, if_neg h10]
      rcases h with ⟨h1, h2, h3⟩ | ⟨h1, h2, h3⟩
      · rw [if_neg (fun q => q h1), h1, h2]
      · rw [if_pos (by omega), h3]
theorem ok_deepest (hw : wk sw w) {f : mj_F} (r : RR sw f) (x1 : Int) : Ok sw w f yX_deepest yM_deepest [.inl x1] := by
  obtain ⟨c, np, ne, st, N, L, nx, d, tp, ed, r⟩ := r
  obtain ⟨⟨hc4, hn8, he16, _, _⟩, ⟨_, xc, mc, xp, mp, xe, me, xs, ms⟩, hL, hE, h0, hg⟩ := r.1
  have xn := r.2.2.1.2.1
  have mn := r.2.2.1.2.2.1
  have hN := r.2.2.1.1
  have mc' : mj_u f 223 0 0 223 2 = (c : Int) := mc
  have mp' : mj_u f 223 0 0 223 3 = (np : Int) := mp
  have me' : mj_u f 223 0 0 223 4 = (ne : Int) := me
  have mn' : mj_u f 223 0 0 223 23 = (N : Int) := mn
  by_cases hV : 0 ≤ x1 ∧ x1 < 2
  · obtain ⟨b, m, m', e1, e2⟩ := dp_same hw r.2.2.1 hn8 xp x1 (by omega)
    refine Ok_i ⟨c, np, ne, st, N, L, nx, d, tp, ed, r⟩ (F1 := f) (F3 := mj_u f 223 0 0) (v := if x1 = 0 then b else m) ?_ (Cor_r _ _) ?_ Cor_0
    · rw [c_X_deepest hw, if_neg (by omega), if_pos (by omega), e1]
    · rw [c_M_deepest hw, M_isTwo hw, mj_bi_some]
      simp only [i01]
      rw [if_pos (by omega), e2 _ (RX_c Cor_0 r).2.2.1 mp' (funext fun q => mu0a (by decide)) (funext fun q => mu0a (by decide))]
  · refine Ok_i ⟨c, np, ne, st, N, L, nx, d, tp, ed, r⟩ (F1 := f) (F3 := mj_u f 223 0 0) (v := -1) ?_ (Cor_r _ _) ?_ Cor_0
    · simp only [c_X_deepest hw, X_isTable hw, mj_bi_some, i01]
      repeat' split
      all_goals first | rfl | (exfalso; omega)
    · simp only [c_M_deepest hw, M_isTwo hw, mj_bi_some, i01]
      repeat' split
      all_goals first | rfl | (exfalso; omega)
end TE
