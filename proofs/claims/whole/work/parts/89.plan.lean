/-! The plan asked, nodes asked. -/
theorem mu0 {f : mj_F} {q : Nat} (h : q ≠ 0) : mj_u f 223 0 0 223 q = f 223 q := u_o (Or.inr h)
theorem mu0a {f : mj_F} {a q : Nat} (h : a ≠ 223) : mj_u f 223 0 0 a q = f a q := u_o (Or.inl h)
theorem w86 {e k : Nat} (he : e < 16) (hk : k < 6) : mj_w (mj_w (((8 + e : Nat) : Int) * 6) + (k : Int)) = ((6 * (8 + e) + k : Nat) : Int) := by unfold mj_w; omega
theorem w68 {e k : Nat} (he : e < 16) (hk : k < 6) : mj_w (mj_w (6 * ((8 + e : Nat) : Int)) + (k : Int)) = ((6 * (8 + e) + k : Nat) : Int) := by unfold mj_w; omega
theorem w105 {i : Nat} (h : i < 20) : mj_w (105 + (i : Int)) = ((105 + i : Nat) : Int) := by unfold mj_w; omega
section PL
variable {sw : Bool} {w : mj_W}
theorem ok_fault (hw : wk sw w) {f : mj_F} (r : RR sw f) (x1 : Int) : Ok sw w f yX_fault yM_fault [.inl x1] := by
  obtain ⟨c, np, ne, st, N, L, nx, d, tp, ed, r⟩ := r
  obtain ⟨⟨hc4, hn8, he16, _, _⟩, ⟨xl, xc, mc, xp, mp, xe, me, xs, ms⟩, hL, hE, h0, hg⟩ := r.1
  have xn := r.2.2.1.2.1
  have mn := r.2.2.1.2.2.1
  have hN := r.2.2.1.1
  have mc' : mj_u f 223 0 0 223 2 = (c : Int) := mc
  have mp' : mj_u f 223 0 0 223 3 = (np : Int) := mp
  have me' : mj_u f 223 0 0 223 4 = (ne : Int) := me
  have mn' : mj_u f 223 0 0 223 23 = (N : Int) := mn
  obtain ⟨_, _, _, _, f5, f6⟩ := r.2.2.2.2.2
  by_cases h0' : x1 = 0
  · exact Ok_i ⟨c, np, ne, st, N, L, nx, d, tp, ed, r⟩ ((c_X_fault hw f x1).trans (if_pos h0')) (Cor_r _ _) ((c_M_fault hw f x1).trans ((if_neg (fun q => q h0')).trans (by rw [mu0 (by decide), ← f5]))) Cor_0
  · by_cases h1 : x1 = 1
    · exact Ok_i ⟨c, np, ne, st, N, L, nx, d, tp, ed, r⟩ ((c_X_fault hw f x1).trans ((if_neg h0').trans (if_pos h1))) (Cor_r _ _) ((c_M_fault hw f x1).trans ((if_pos h0').trans ((if_neg (fun q => q h1)).trans (by rw [mu0 (by decide), ← f6])))) Cor_0
    · exact Ok_i ⟨c, np, ne, st, N, L, nx, d, tp, ed, r⟩ ((c_X_fault hw f x1).trans ((if_neg h0').trans (if_neg h1))) (Cor_r _ _) ((c_M_fault hw f x1).trans ((if_pos h0').trans (if_pos h1))) Cor_0
theorem ok_nodes (hw : wk sw w) {f : mj_F} (r : RR sw f) : Ok sw w f yX_nodes yM_nodes [] := by
  obtain ⟨c, np, ne, st, N, L, nx, d, tp, ed, r⟩ := r
  obtain ⟨⟨hc4, hn8, he16, _, _⟩, ⟨xl, xc, mc, xp, mp, xe, me, xs, ms⟩, hL, hE, h0, hg⟩ := r.1
  have xn := r.2.2.1.2.1
  have mn := r.2.2.1.2.2.1
  have hN := r.2.2.1.1
  have mc' : mj_u f 223 0 0 223 2 = (c : Int) := mc
  have mp' : mj_u f 223 0 0 223 3 = (np : Int) := mp
  have me' : mj_u f 223 0 0 223 4 = (ne : Int) := me
  have mn' : mj_u f 223 0 0 223 23 = (N : Int) := mn
  exact Ok_i ⟨c, np, ne, st, N, L, nx, d, tp, ed, r⟩ (c_X_nodes hw f) (Cor_r _ _) ((c_M_nodes hw f).trans (by rw [mu0 (by decide), xn, mn])) Cor_0
theorem ok_count (hw : wk sw w) {f : mj_F} (r : RR sw f) (x1 : Int) : Ok sw w f yX_count yM_count [.inl x1] := by
  obtain ⟨c, np, ne, st, N, L, nx, d, tp, ed, r⟩ := r
  obtain ⟨⟨hc4, hn8, he16, _, _⟩, ⟨xl, xc, mc, xp, mp, xe, me, xs, ms⟩, hL, hE, h0, hg⟩ := r.1
  have xn := r.2.2.1.2.1
  have mn := r.2.2.1.2.2.1
  have hN := r.2.2.1.1
  have mc' : mj_u f 223 0 0 223 2 = (c : Int) := mc
  have mp' : mj_u f 223 0 0 223 3 = (np : Int) := mp
  have me' : mj_u f 223 0 0 223 4 = (ne : Int) := me
  have mn' : mj_u f 223 0 0 223 23 = (N : Int) := mn
  obtain ⟨v, hv⟩ : ∃ v, v = (if x1 = 0 then f (pl sw) 0 else if x1 = 1 then (c : Int) else if x1 = 2 then (np : Int) else if x1 = 3 then (ne : Int) else if x1 = 4 then (if ¬ (np : Int) = 0 then (st : Int) else -1) else if x1 = 5 then (L : Int) else if x1 = 6 then (d : Int) else if x1 = 7 then (tp : Int) else -1) := ⟨_, rfl⟩
  refine Ok_i ⟨c, np, ne, st, N, L, nx, d, tp, ed, r⟩ (F1 := f) (F3 := mj_u f 223 0 0) (v := v) ?_ (Cor_r _ _) ?_ Cor_0
  · rw [c_X_count hw, hv, xc, xp, xe, xs, r.2.2.2.1.2.1, r.2.2.2.2.1.2.2.2.1, r.2.2.2.2.2.2.1]
    repeat' split
    all_goals rfl
  · rw [c_M_count hw, hv, mu0 (by decide), mu0 (by decide), mu0 (by decide), mu0 (by decide), mu0 (by decide), mu0 (by decide), mu0 (by decide), ← xl, mc, mp, me, ms, r.2.2.2.2.1.2.2.2.2.1, r.2.2.2.2.2.2.2.1, c_M_traced hw, mj_bi_some, mu0a (by decide), show (104 : Int).toNat = 104 from rfl, r.2.2.2.1.2.2.1]
    repeat' split
    all_goals rfl
theorem ok_trace (hw : wk sw w) {f : mj_F} (r : RR sw f) (x1 : Int) : Ok sw w f yX_trace yM_trace [.inl x1] := by
  obtain ⟨c, np, ne, st, N, L, nx, d, tp, ed, r⟩ := r
  obtain ⟨⟨hc4, hn8, he16, _, _⟩, ⟨xl, xc, mc, xp, mp, xe, me, xs, ms⟩, hL, hE, h0, hg⟩ := r.1
  have xn := r.2.2.1.2.1
  have mn := r.2.2.1.2.2.1
  have hN := r.2.2.1.1
  have mc' : mj_u f 223 0 0 223 2 = (c : Int) := mc
  have mp' : mj_u f 223 0 0 223 3 = (np : Int) := mp
  have me' : mj_u f 223 0 0 223 4 = (ne : Int) := me
  have mn' : mj_u f 223 0 0 223 23 = (N : Int) := mn
  obtain ⟨l1, l2, l3, l4, _⟩ := r.2.2.2.1
  have e104 : mj_u f 223 0 0 234 (104 : Int).toNat = (L : Int) := l3
  by_cases h1 : -1 ≤ x1
  · by_cases h2 : x1 = -1
    · refine Ok_i ⟨c, np, ne, st, N, L, nx, d, tp, ed, r⟩ (F1 := f) (F3 := mj_u f 223 0 0) (v := (L : Int)) ?_ (Cor_r _ _) ?_ Cor_0
      · rw [c_X_trace hw, if_pos h1, l2, if_pos (by omega), if_neg (fun q => q h2)]
      · rw [c_M_trace hw, if_pos h1, if_neg (fun q => q h2), c_M_traced hw, mj_bi_some, e104]
    · obtain ⟨i, rfl⟩ : ∃ i : Nat, x1 = (i : Int) := ⟨x1.toNat, by omega⟩
      by_cases h3 : i < L
      · refine Ok_i ⟨c, np, ne, st, N, L, nx, d, tp, ed, r⟩ (F1 := f) (F3 := mj_u f 223 0 0) (v := (ed i : Int)) ?_ (Cor_r _ _) ?_ Cor_0
        · rw [c_X_trace hw, if_pos h1, l2, if_pos (by omega), if_pos h2, mj_gd_pos ⟨by omega, by omega⟩, Int.toNat_natCast, (l4 i h3).1]
        · rw [c_M_trace hw, if_pos h1, if_pos h2, c_M_traced hw, mj_bi_some, e104, if_neg (by omega), w105 (by omega), mj_gd_pos ⟨by omega, by omega⟩, Int.toNat_natCast, mu0a (by decide), (l4 i h3).2]
      · refine Ok_i ⟨c, np, ne, st, N, L, nx, d, tp, ed, r⟩ (F1 := f) (F3 := mj_u f 223 0 0) (v := -2) ?_ (Cor_r _ _) ?_ Cor_0
        · rw [c_X_trace hw, if_pos h1, l2, if_neg (by omega)]
        · rw [c_M_trace hw, if_pos h1, if_pos h2, c_M_traced hw, mj_bi_some, e104, if_pos (by omega)]
  · refine Ok_i ⟨c, np, ne, st, N, L, nx, d, tp, ed, r⟩ (F1 := f) (F3 := mj_u f 223 0 0) (v := -1) ?_ (Cor_r _ _) ?_ Cor_0
    · rw [c_X_trace hw, if_neg h1]
    · rw [c_M_trace hw, if_neg h1]
theorem M_depth_run (hw : wk sw w) {F : mj_F} {N : Nat} (hN : N ≤ 60) (h0 : 0 < N → F 237 0 = -2 ∧ F 42 0 = 0) (hS : ∀ k, 0 < k → k < N → ∃ j d : Nat, j < k ∧ F 237 k = (j : Int) ∧ F 42 j = (d : Int) ∧ F 42 k = ((d + 1 : Nat) : Int)) (x1 : Int) : ∀ k, k < N → ∀ acc : Nat, acc + k < 1000 → ∃ d : Nat, F 42 k = (d : Int) ∧ d ≤ k ∧ mj_run yM_depth w F 4 [.inr (.inl 223), .inl x1, .inl (acc : Int), .inl (k : Int)] [] = some (w, F, some (.inl ((acc + d : Nat) : Int))) := by
  intro k
  induction k using Nat.strongRecOn with
  | ind k ih =>
    intro hk acc ha
    by_cases hk0 : k = 0
    · subst hk0
      have h := h0 hk
      refine ⟨0, h.2, Nat.le_refl 0, ?_⟩
      rw [l_M_depth_4 hw, mj_gd_pos ⟨by omega, by omega⟩, Int.toNat_natCast, if_pos h.1]
      rfl
    · obtain ⟨j, d, hj, e1, e2, e3⟩ := hS k (by omega) hk
      obtain ⟨d', i1, i2, i3⟩ := ih j hj (by omega) (acc + 1) (by omega)
      have hd : d = d' := by omega
      subst hd
      refine ⟨d + 1, e3, by omega, ?_⟩
      rw [l_M_depth_4 hw, mj_gd_pos ⟨by omega, by omega⟩, Int.toNat_natCast, e1, if_neg (by omega), mj_gd_pos ⟨by omega, by omega⟩, wS (by omega), i3, show acc + 1 + d = acc + (d + 1) by omega]
theorem M_depth (hw : wk sw w) {F : mj_F} {c np ne st N k : Nat} (rc : RC sw F c np ne st N) (hk : k < N) : ∃ d : Nat, F 42 k = (d : Int) ∧ d ≤ k ∧ mj_call yM_depth w F [.inr (.inl 223), .inl (k : Int)] = some (w, F, some (.inl (d : Int))) := by
  obtain ⟨d, h1, h2, h3⟩ := M_depth_run hw rc.1 (fun h => by
    have := (rc.2.2.2.1 0 h).2.2.2.1 rfl
    exact ⟨this.1, this.2.2.1⟩) (fun k h0 hk => by
    obtain ⟨j, e, d, a1, a2, a3, a4, a5, a6, _⟩ := (rc.2.2.2.1 k hk).2.2.2.2.1 h0
    exact ⟨j, d, a1, a3, a5, a6⟩) (k : Int) k hk 0 (by have := rc.1; omega)
  refine ⟨d, h1, h2, ?_⟩
  rw [c_M_depth hw]
  rw [Nat.zero_add] at h3
  exact h3
theorem M_firstNode (hw : wk sw w) {F : mj_F} {c np ne st N p : Nat} (rc : RC sw F c np ne st N) (hp : p < np) : mj_call yM_firstNode w F [.inr (.inl 223), .inl (p : Int)] = some (w, F, some (.inl (F 44 p))) := by
  have hN := rc.1
  have hlo : ∀ k : Nat, k ≤ N → (∀ j, j < k → F 236 j ≠ (p : Int)) → mj_run yM_firstNode w F 2 [.inr (.inl 223), .inl (p : Int), .inl 0] [] = mj_run yM_firstNode w F 2 [.inr (.inl 223), .inl (p : Int), .inl (k : Int)] [] := by
    intro k hk h
    exact loop_st (fun k => mj_run yM_firstNode w F 2 [.inr (.inl 223), .inl (p : Int), .inl (k : Int)] []) (Nat.zero_le k) (fun i _ hi => by
      rw [l_M_firstNode_2 hw, rc.2.2.1, if_neg (by omega), mj_gd_pos ⟨by omega, by omega⟩, Int.toNat_natCast, if_pos (h i hi), wS (by omega)])
  rw [c_M_firstNode hw]
  rcases rc.2.2.2.2 p hp with ⟨a, b⟩ | ⟨k, hk, a, b, e⟩
  · rw [hlo N (Nat.le_refl N) b, l_M_firstNode_2 hw, rc.2.2.1, if_pos (by omega), a]
  · rw [hlo k (by omega) e, l_M_firstNode_2 hw, rc.2.2.1, if_neg (by omega), mj_gd_pos ⟨by omega, by omega⟩, Int.toNat_natCast, if_neg (fun q => q b), a]
theorem ok_great (hw : wk sw w) {f : mj_F} (r : RR sw f) (x1 : Int) : Ok sw w f yX_great yM_great [.inl x1] := by
  obtain ⟨c, np, ne, st, N, L, nx, d, tp, ed, r⟩ := r
  obtain ⟨⟨hc4, hn8, he16, _, _⟩, ⟨_, xc, mc, xp, mp, xe, me, xs, ms⟩, hL, hE, h0, hg⟩ := r.1
  have xn := r.2.2.1.2.1
  have mn := r.2.2.1.2.2.1
  have hN := r.2.2.1.1
  have mc' : mj_u f 223 0 0 223 2 = (c : Int) := mc
  have mp' : mj_u f 223 0 0 223 3 = (np : Int) := mp
  have me' : mj_u f 223 0 0 223 4 = (ne : Int) := me
  have mn' : mj_u f 223 0 0 223 23 = (N : Int) := mn
  by_cases hV : 0 ≤ x1 ∧ x1 < (c : Int)
  · obtain ⟨x, rfl⟩ : ∃ x : Nat, x1 = (x : Int) := ⟨x1.toNat, by omega⟩
    refine Ok_i ⟨c, np, ne, st, N, L, nx, d, tp, ed, r⟩ (F1 := f) (F3 := mj_u f 223 0 0) (v := f 233 (x + 1)) ?_ (Cor_r _ _) ?_ Cor_0
    · simp only [c_X_great hw, X_isClock hw f xc, mj_bi_some, i01]
      rw [if_neg (by omega), mj_gd_pos ⟨by omega, by omega⟩, Int.toNat_natCast, (hg x (by omega)).1]
    · simp only [c_M_great hw, M_isClock hw _ mc' (by omega), mj_bi_some, i01]
      rw [if_neg (by omega), wS (by omega), mj_gd_pos ⟨by omega, by omega⟩, Int.toNat_natCast, mu0a (by decide)]
  · refine Ok_i ⟨c, np, ne, st, N, L, nx, d, tp, ed, r⟩ (F1 := f) (F3 := mj_u f 223 0 0) (v := -1) ?_ (Cor_r _ _) ?_ Cor_0
    · simp only [c_X_great hw, X_isClock hw f xc, mj_bi_some, i01]
      repeat' split
      all_goals first | rfl | (exfalso; omega)
    · simp only [c_M_great hw, M_isClock hw _ mc' (by omega), mj_bi_some, i01]
      repeat' split
      all_goals first | rfl | (exfalso; omega)
theorem ok_when (hw : wk sw w) {f : mj_F} (r : RR sw f) (x1 x2 x3 : Int) : Ok sw w f yX_when yM_when [.inl x1, .inl x2, .inl x3] := by
  obtain ⟨c, np, ne, st, N, L, nx, d, tp, ed, r⟩ := r
  obtain ⟨⟨hc4, hn8, he16, _, _⟩, ⟨_, xc, mc, xp, mp, xe, me, xs, ms⟩, hL, hE, h0, hg⟩ := r.1
  have xn := r.2.2.1.2.1
  have mn := r.2.2.1.2.2.1
  have hN := r.2.2.1.1
  have mc' : mj_u f 223 0 0 223 2 = (c : Int) := mc
  have mp' : mj_u f 223 0 0 223 3 = (np : Int) := mp
  have me' : mj_u f 223 0 0 223 4 = (ne : Int) := me
  have mn' : mj_u f 223 0 0 223 23 = (N : Int) := mn
  by_cases hV : (0 ≤ x1 ∧ x1 < (ne : Int)) ∧ 0 ≤ x2 ∧ 0 ≤ x3 ∧ x3 ≤ 2
  · obtain ⟨e, rfl⟩ : ∃ e : Nat, x1 = (e : Int) := ⟨x1.toNat, by omega⟩
    obtain ⟨k, rfl⟩ : ∃ k : Nat, x2 = (k : Int) := ⟨x2.toNat, by omega⟩
    obtain ⟨m, m6, m1, m2, m3, m4⟩ := (hE e (by omega)).1
    have he : e < 16 := by omega
    by_cases hk : k < m
    · obtain ⟨q1, q2, q3⟩ := m3 k hk
      obtain ⟨v, hv⟩ : ∃ v, v = (if ¬ x3 = 0 then if ¬ x3 = 1 then f 227 (6 * (8 + e) + k) else f 226 (6 * (8 + e) + k) else f 225 (6 * (8 + e) + k)) := ⟨_, rfl⟩
      have g1 : (0 : Int) ≤ ((6 * (8 + e) + k : Nat) : Int) ∧ ((6 * (8 + e) + k : Nat) : Int) < ((144 : Nat) : Int) := ⟨by omega, by omega⟩
      refine Ok_i ⟨c, np, ne, st, N, L, nx, d, tp, ed, r⟩ (F1 := f) (F3 := mj_u f 223 0 0) (v := v) ?_ (Cor_r _ _) ?_ Cor_0
      · simp only [c_X_when hw, X_isEdge hw f xe, mj_bi_some, i01]
        rw [if_neg (by omega), if_neg (by omega), if_neg (by omega), if_pos (by omega), X_edgeRules hw _ he, mj_bi_some, mj_gd_pos ⟨by omega, by omega⟩, Int.toNat_natCast, m1, if_pos (by omega)]
        simp only [w86 he (show k < 6 by omega), mj_gd_pos g1, Int.toNat_natCast, q1, q2, q3, hv]
        repeat' split
        all_goals rfl
      · simp only [c_M_when hw, M_isEdge hw _ me' (by omega), M_isIn hw, mj_bi_some, i01]
        rw [if_neg (by omega), if_neg (by omega), if_pos (by omega)]
        simp only [w8 he]
        rw [mj_gd_pos ⟨by omega, by omega⟩, Int.toNat_natCast, mu0a (by decide), m2, if_pos (by omega)]
        simp only [w68 he (show k < 6 by omega), mj_gd_pos g1, Int.toNat_natCast, mu0a (show (225 : Nat) ≠ 223 by decide), mu0a (show (226 : Nat) ≠ 223 by decide), mu0a (show (227 : Nat) ≠ 223 by decide), hv]
        repeat' split
        all_goals rfl
    · refine Ok_i ⟨c, np, ne, st, N, L, nx, d, tp, ed, r⟩ (F1 := f) (F3 := mj_u f 223 0 0) (v := -2) ?_ (Cor_r _ _) ?_ Cor_0
      · simp only [c_X_when hw, X_isEdge hw f xe, mj_bi_some, i01]
        rw [if_neg (by omega), if_neg (by omega), if_neg (by omega), if_pos (by omega), X_edgeRules hw _ he, mj_bi_some, mj_gd_pos ⟨by omega, by omega⟩, Int.toNat_natCast, m1, if_neg (by omega)]
      · simp only [c_M_when hw, M_isEdge hw _ me' (by omega), M_isIn hw, mj_bi_some, i01]
        rw [if_neg (by omega), if_neg (by omega), if_pos (by omega)]
        simp only [w8 he]
        rw [mj_gd_pos ⟨by omega, by omega⟩, Int.toNat_natCast, mu0a (by decide), m2, if_neg (by omega)]
  · refine Ok_i ⟨c, np, ne, st, N, L, nx, d, tp, ed, r⟩ (F1 := f) (F3 := mj_u f 223 0 0) (v := -1) ?_ (Cor_r _ _) ?_ Cor_0
    · simp only [c_X_when hw, X_isEdge hw f xe, mj_bi_some, i01]
      repeat' split
      all_goals first | rfl | (exfalso; omega)
    · simp only [c_M_when hw, M_isEdge hw _ me' (by omega), M_isIn hw, mj_bi_some, i01]
      repeat' split
      all_goals first | rfl | (exfalso; omega)
theorem ok_set (hw : wk sw w) {f : mj_F} (r : RR sw f) (x1 x2 x3 : Int) : Ok sw w f yX_set yM_set [.inl x1, .inl x2, .inl x3] := by
  obtain ⟨c, np, ne, st, N, L, nx, d, tp, ed, r⟩ := r
  obtain ⟨⟨hc4, hn8, he16, _, _⟩, ⟨_, xc, mc, xp, mp, xe, me, xs, ms⟩, hL, hE, h0, hg⟩ := r.1
  have xn := r.2.2.1.2.1
  have mn := r.2.2.1.2.2.1
  have hN := r.2.2.1.1
  have mc' : mj_u f 223 0 0 223 2 = (c : Int) := mc
  have mp' : mj_u f 223 0 0 223 3 = (np : Int) := mp
  have me' : mj_u f 223 0 0 223 4 = (ne : Int) := me
  have mn' : mj_u f 223 0 0 223 23 = (N : Int) := mn
  by_cases hV : (0 ≤ x1 ∧ x1 < (ne : Int)) ∧ 0 ≤ x2 ∧ 0 ≤ x3 ∧ x3 < 2
  · obtain ⟨e, rfl⟩ : ∃ e : Nat, x1 = (e : Int) := ⟨x1.toNat, by omega⟩
    obtain ⟨k, rfl⟩ : ∃ k : Nat, x2 = (k : Int) := ⟨x2.toNat, by omega⟩
    obtain ⟨m, m4, m1, m2, m3, m5⟩ := (hE e (by omega)).2.1
    have he : e < 16 := by omega
    by_cases hk : k < m
    · obtain ⟨q1, q2⟩ := m3 k hk
      obtain ⟨v, hv⟩ : ∃ v, v = (if ¬ x3 = 0 then f 232 (4 * e + k) else f 231 (4 * e + k)) := ⟨_, rfl⟩
      have g1 : (0 : Int) ≤ ((4 * e + k : Nat) : Int) ∧ ((4 * e + k : Nat) : Int) < ((64 : Nat) : Int) := ⟨by omega, by omega⟩
      refine Ok_i ⟨c, np, ne, st, N, L, nx, d, tp, ed, r⟩ (F1 := f) (F3 := mj_u f 223 0 0) (v := v) ?_ (Cor_r _ _) ?_ Cor_0
      · simp only [c_X_set hw, X_isEdge hw f xe, mj_bi_some, i01]
        rw [if_neg (by omega), if_neg (by omega), if_neg (by omega), if_pos (by omega), mj_gd_pos ⟨by omega, by omega⟩, Int.toNat_natCast, m1, if_pos (by omega)]
        simp only [ix4 he (show k < 4 by omega), mj_gd_pos g1, Int.toNat_natCast, q1, q2, hv]
        repeat' split
        all_goals rfl
      · simp only [c_M_set hw, M_isEdge hw _ me' (by omega), M_isTwo hw, mj_bi_some, i01]
        rw [if_neg (by omega), if_neg (by omega), if_pos (by omega), mj_gd_pos ⟨by omega, by omega⟩, Int.toNat_natCast, mu0a (by decide), m2, if_pos (by omega)]
        simp only [w4m he (show k ≤ 4 by omega), mj_gd_pos g1, Int.toNat_natCast, mu0a (show (231 : Nat) ≠ 223 by decide), mu0a (show (232 : Nat) ≠ 223 by decide), hv]
        repeat' split
        all_goals rfl
    · refine Ok_i ⟨c, np, ne, st, N, L, nx, d, tp, ed, r⟩ (F1 := f) (F3 := mj_u f 223 0 0) (v := -2) ?_ (Cor_r _ _) ?_ Cor_0
      · simp only [c_X_set hw, X_isEdge hw f xe, mj_bi_some, i01]
        rw [if_neg (by omega), if_neg (by omega), if_neg (by omega), if_pos (by omega), mj_gd_pos ⟨by omega, by omega⟩, Int.toNat_natCast, m1, if_neg (by omega)]
      · simp only [c_M_set hw, M_isEdge hw _ me' (by omega), M_isTwo hw, mj_bi_some, i01]
        rw [if_neg (by omega), if_neg (by omega), if_pos (by omega), mj_gd_pos ⟨by omega, by omega⟩, Int.toNat_natCast, mu0a (by decide), m2, if_neg (by omega)]
  · refine Ok_i ⟨c, np, ne, st, N, L, nx, d, tp, ed, r⟩ (F1 := f) (F3 := mj_u f 223 0 0) (v := -1) ?_ (Cor_r _ _) ?_ Cor_0
    · simp only [c_X_set hw, X_isEdge hw f xe, mj_bi_some, i01]
      repeat' split
      all_goals first | rfl | (exfalso; omega)
    · simp only [c_M_set hw, M_isEdge hw _ me' (by omega), M_isTwo hw, mj_bi_some, i01]
      repeat' split
      all_goals first | rfl | (exfalso; omega)
theorem ok_node (hw : wk sw w) {f : mj_F} (r : RR sw f) (x1 x2 : Int) : Ok sw w f yX_node yM_node [.inl x1, .inl x2] := by
  obtain ⟨c, np, ne, st, N, L, nx, d, tp, ed, r⟩ := r
  obtain ⟨⟨hc4, hn8, he16, _, _⟩, ⟨xl, xc, mc, xp, mp, xe, me, xs, ms⟩, hL, hE, h0, hg⟩ := r.1
  have xn := r.2.2.1.2.1
  have mn := r.2.2.1.2.2.1
  have hN := r.2.2.1.1
  have mc' : mj_u f 223 0 0 223 2 = (c : Int) := mc
  have mp' : mj_u f 223 0 0 223 3 = (np : Int) := mp
  have me' : mj_u f 223 0 0 223 4 = (ne : Int) := me
  have mn' : mj_u f 223 0 0 223 23 = (N : Int) := mn
  by_cases h1 : 0 ≤ x2 ∧ x2 ≤ 3
  · by_cases h2 : 0 ≤ x1 ∧ x1 < (N : Int)
    · obtain ⟨k, rfl⟩ : ∃ k : Nat, x1 = (k : Int) := ⟨x1.toNat, by omega⟩
      have hk : k < N := by omega
      obtain ⟨⟨a, _, p1, p2⟩, p3, p4, _⟩ := r.2.2.1.2.2.2.1 k hk
      have rc' : RC sw (mj_u f 223 0 0) c np ne st N := (RX_c Cor_0 r).2.2.1
      obtain ⟨dd, d1, d2, d3⟩ := M_depth hw rc' hk
      rw [mu0a (by decide)] at d1
      have g1 : (0 : Int) ≤ (k : Int) ∧ (k : Int) < ((60 : Nat) : Int) := ⟨by omega, by omega⟩
      obtain ⟨v, hv⟩ : ∃ v, v = (if x2 = 0 then f 236 k else if x2 = 1 then f 237 k else if x2 = 2 then f 238 k else (dd : Int)) := ⟨_, rfl⟩
      refine Ok_i ⟨c, np, ne, st, N, L, nx, d, tp, ed, r⟩ (F1 := f) (F3 := mj_u f 223 0 0) (v := v) ?_ (Cor_r _ _) ?_ Cor_0
      · simp only [c_X_node hw, X_isNode hw f xn, mj_bi_some, i01]
        rw [if_neg (by omega), if_pos (by omega), if_pos (by omega)]
        simp only [mj_gd_pos g1, Int.toNat_natCast, p1, p3, p4, d1, ← p2, hv]
        repeat' split
        all_goals first | rfl | (exfalso; omega)
      · rw [c_M_node hw, M_isIn hw, mj_bi_some, M_in1 hw _ mn' (by omega), mj_bi_some, d3, mj_bi_some]
        simp only [i01]
        rw [if_pos (by omega), if_pos (by omega)]
        simp only [mj_gd_pos g1, Int.toNat_natCast, mu0a (show (236 : Nat) ≠ 223 by decide), mu0a (show (237 : Nat) ≠ 223 by decide), mu0a (show (238 : Nat) ≠ 223 by decide), hv]
        repeat' split
        all_goals first | rfl | (exfalso; omega)
    · refine Ok_i ⟨c, np, ne, st, N, L, nx, d, tp, ed, r⟩ (F1 := f) (F3 := mj_u f 223 0 0) (v := -3) ?_ (Cor_r _ _) ?_ Cor_0
      · simp only [c_X_node hw, X_isNode hw f xn, mj_bi_some, i01]
        rw [if_neg (by omega), if_pos (by omega), if_neg (by omega)]
      · rw [c_M_node hw, M_isIn hw, mj_bi_some, M_in1 hw _ mn' (by omega), mj_bi_some]
        simp only [i01]
        rw [if_pos (by omega), if_neg (by omega)]
  · refine Ok_i ⟨c, np, ne, st, N, L, nx, d, tp, ed, r⟩ (F1 := f) (F3 := mj_u f 223 0 0) (v := -1) ?_ (Cor_r _ _) ?_ Cor_0
    · simp only [c_X_node hw]
      repeat' split
      all_goals first | rfl | (exfalso; omega)
    · simp only [c_M_node hw, M_isIn hw, mj_bi_some, i01]
      rw [if_neg (by omega)]
end PL
