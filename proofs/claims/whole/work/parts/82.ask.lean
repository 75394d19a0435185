/-! Calls that ask a table. -/
theorem TS_cell {n : Nat} {M : Int} {C A : Mt} (h : TS n M (0, C) (0, A)) {i j : Nat} (hi : i < n) (hj : j < n) : (C i j = 268435456 ∧ A i j = 1000000) ∨ (C i j = A i j ∧ -M < C i j ∧ C i j < M ∧ A i j < 1000000 ∧ C i j < 268435456) := by
  rcases h with ⟨a, _⟩ | ⟨_, _, c, d, e, g, k, l⟩
  · exact absurd (show (0 : Int) = 1 from a) (by decide)
  · have e1 : cv (C i j) = rv (A i j) := g i j hi hj
    have k1 : -100000000 < C i j ∧ C i j ≤ 268435456 ∧ (C i j < 100000000 ∨ C i j = 268435456) := k i j hi hj
    have l1 : -1000000 < A i j ∧ A i j ≤ 1000000 := l i j hi hj
    by_cases h1 : 268435456 ≤ C i j
    · rw [cv_n h1] at e1
      have := rv_o e1.symm
      exact Or.inl ⟨by omega, by omega⟩
    · have b := e i j (C i j) hi hj (show cv (C i j) = some (C i j) from cv_s (by omega))
      rw [cv_s (by omega)] at e1
      have := rv_i e1.symm
      exact Or.inr ⟨by omega, b.1, b.2, by omega, by omega⟩
theorem TS_00 {n : Nat} {M v : Int} {C : Mt} {r : Int × Mt} (h : TS n M (v, C) r) (hv : v = 0) : TS n M (0, C) (0, r.2) := by
  have e := (TS_01 h).2.2
  exact TS_e h hv.symm (show (0 : Int) = r.1 from hv.symm.trans e) (fun _ _ _ _ => rfl) (fun _ _ _ _ => rfl)
def tel (b x : Int) : Int := if b < 268435456 then (if x = 0 then mj_shr b 1 else mj_and b 1) else (if x = 0 then 1000 else 0)
def tld (b x : Int) : Int := if x = 0 then (if b < 1000000 then mj_shr b 1 else 1000) else (if b < 1000000 then mj_and b 1 else 0)
theorem tel_n {b b' : Int} (h1 : 268435456 ≤ b) (h2 : 1000000 ≤ b') (x : Int) : tel b x = tld b' x := by
  unfold tel tld
  have h1' : ¬ b < 268435456 := by omega
  have h2' : ¬ b' < 1000000 := by omega
  rw [if_neg h1', if_neg h2', if_neg h2']
theorem tel_s {b b' : Int} (h : b = b') (h1 : b < 268435456) (h2 : b' < 1000000) (x : Int) : tel b x = tld b' x := by
  unfold tel tld
  rw [if_pos h1, if_pos h2, if_pos h2, h]
theorem TS_tel {n : Nat} {M : Int} {C A : Mt} (h : TS n M (0, C) (0, A)) {i j : Nat} (hi : i < n) (hj : j < n) (x : Int) : tel (C i j) x = tld (A i j) x := by
  rcases TS_cell h hi hj with ⟨a, b⟩ | ⟨a, _, _, b, c⟩
  · exact tel_n (by omega) (by omega) x
  · exact tel_s a c b x
/-- two bounds together -/
theorem TS_sum {n : Nat} {M : Int} (hM : M ≤ 400000) {C A : Mt} (h : TS n M (0, C) (0, A)) {i j k l : Nat} (hi : i < n) (hj : j < n) (hk : k < n) (hl : l < n) : (cp (C i j) (C k l) = 268435456 ∧ rp (A i j) (A k l) = 1000000) ∨ (cp (C i j) (C k l) = rp (A i j) (A k l) ∧ cp (C i j) (C k l) < 268435456 ∧ rp (A i j) (A k l) < 1000000) := by
  have a := TS_cell h hi hj
  have b := TS_cell h hk hl
  rcases a with ⟨a1, a2⟩ | ⟨a1, a2, a3, a4, a5⟩
  · refine Or.inl ⟨?_, ?_⟩
    · unfold cp; rw [if_pos (by omega)]
    · unfold rp; rw [if_pos (by omega)]
  · rcases b with ⟨b1, b2⟩ | ⟨b1, b2, b3, b4, b5⟩
    · refine Or.inl ⟨?_, ?_⟩
      · unfold cp; rw [if_neg (by omega), if_neg (by omega)]
      · unfold rp; rw [if_neg (by omega), if_neg (by omega)]
    · have e1 : cp (C i j) (C k l) = pz (C i j) (C k l) := by unfold cp; rw [if_neg (by omega), if_pos (by omega), cs_pz (by omega) (by omega)]
      have e2 : rp (A i j) (A k l) = pz (A i j) (A k l) := by unfold rp; rw [if_neg (by omega), if_pos (by omega), rs_pz (by omega) (by omega)]
      have e3 := pz_lo (C i j) (C k l)
      rw [e1, e2, ← a1, ← b1]
      exact Or.inr ⟨rfl, by omega, by omega⟩
section QU
variable {sw : Bool} {w : mj_W}
theorem X_tellBound (hw : wk sw w) (F : mj_F) (b x : Int) : mj_call yX_tellBound w F [.inl b, .inl x] = some (w, F, some (.inl (tel b x))) := by
  rw [c_X_tellBound hw]
  unfold tel
  by_cases h1 : b < 268435456
  · rw [if_pos h1, if_pos h1]
    by_cases h2 : x = 0
    · rw [if_neg (fun q => q h2), if_pos h2, c_X_numberOf hw, mj_bi_some]
    · rw [if_pos h2, if_neg h2, c_X_reachedOf hw, mj_bi_some]
  · rw [if_neg h1, if_neg h1]
    by_cases h2 : x = 0
    · rw [if_neg (fun q => q h2), if_pos h2]
    · rw [if_pos h2, if_neg h2]
theorem X_boundOf (hw : wk sw w) (F : mj_F) {z n : Nat} (hz : zn z = true) (hn : F (pl sw) 1 = (n : Int)) (hn4 : n ≤ 4) (x y b : Int) : mj_call yX_boundOf w F [.inr (.inl 2), .inr (.inl z), .inl x, .inl y, .inl b] = some (w, F, some (.inl (if ((-1 ≤ x ∧ x < (n : Int)) ∧ (-1 ≤ y ∧ y < (n : Int)) ∧ x ≠ y) ∧ (0 ≤ b ∧ b < 2) then (if F z 2 = 0 then tel (gm (z + 1) 6 F (x + 1).toNat (y + 1).toNat) b else -1000) else -2000))) := by
  rw [c_X_boundOf hw _ _ _ _ _ hz, X_isPair hw F hn, mj_bi_some]
  simp only [i01]
  by_cases h : ((-1 ≤ x ∧ x < (n : Int)) ∧ (-1 ≤ y ∧ y < (n : Int)) ∧ x ≠ y) ∧ (0 ≤ b ∧ b < 2)
  · rw [if_pos h]
    obtain ⟨i, rfl⟩ : ∃ i : Nat, x = (i : Int) - 1 := ⟨(x + 1).toNat, by omega⟩
    obtain ⟨j, rfl⟩ : ∃ j : Nat, y = (j : Int) - 1 := ⟨(y + 1).toNat, by omega⟩
    have ei : ((i : Int) - 1 + 1).toNat = i := by omega
    have ej : ((j : Int) - 1 + 1).toNat = j := by omega
    rw [if_neg (by omega), if_neg (by omega), if_pos (by omega), ei, ej]
    by_cases h0 : F z 2 = 0
    · rw [if_pos h0, if_pos h0, wM1 (by omega), wM1 (by omega), Z_cellf hw hz F (by omega) (by omega), mj_bi_some, X_tellBound hw, mj_bi_some]
    · rw [if_neg h0, if_neg h0]
  · rw [if_neg h]
    repeat' split
    all_goals first | rfl | (exfalso; omega)
theorem M_tld (hw : wk sw w) (F : mj_F) (b x : Int) : mj_call yM_told w F [.inr (.inl 223), .inl b, .inl x] = some (w, F, some (.inl (tld b x))) := M_told hw F b x
theorem ok_bound (hw : wk sw w) {f : mj_F} (r : RR sw f) (x1 x2 x3 x4 : Int) : Ok sw w f yX_bound yM_bound [.inl x1, .inl x2, .inl x3, .inl x4] := by
  obtain ⟨c, np, ne, st, N, L, nx, d, tp, ed, r⟩ := r
  obtain ⟨⟨hc4, hn8, he16, _, _⟩, ⟨_, xc, mc, xp, mp, xe, me, xs, ms⟩, hL, hE, h0, hg⟩ := r.1
  have xn := r.2.2.1.2.1
  have mn := r.2.2.1.2.2.1
  have hN := r.2.2.1.1
  have mc' : mj_u f 223 0 0 223 2 = (c : Int) := mc
  have mp' : mj_u f 223 0 0 223 3 = (np : Int) := mp
  have me' : mj_u f 223 0 0 223 4 = (ne : Int) := me
  have mn' : mj_u f 223 0 0 223 23 = (N : Int) := mn
  by_cases hV : (0 ≤ x1 ∧ x1 < 4) ∧ ((-1 ≤ x2 ∧ x2 < (c : Int)) ∧ (-1 ≤ x3 ∧ x3 < (c : Int)) ∧ x2 ≠ x3) ∧ (0 ≤ x4 ∧ x4 < 2)
  · obtain ⟨t, rfl⟩ : ∃ t : Nat, x1 = (t : Int) := ⟨x1.toNat, by omega⟩
    obtain ⟨i, rfl⟩ : ∃ i : Nat, x2 = (i : Int) - 1 := ⟨(x2 + 1).toNat, by omega⟩
    obtain ⟨j, rfl⟩ : ∃ j : Nat, x3 = (j : Int) - 1 := ⟨(x3 + 1).toNat, by omega⟩
    have ht : t < 4 := by omega
    obtain ⟨r', l1, l2⟩ := loadT hw r.2.1 (LD_0 r) ht
    obtain ⟨v, hv⟩ : ∃ v, v = if f (215 + 2 * t) 2 = 0 then tel (gm (216 + 2 * t) 6 f i j) x4 else -1000 := ⟨_, rfl⟩
    refine Ok_i ⟨c, np, ne, st, N, L, nx, d, tp, ed, r⟩ (F1 := f) (F3 := rq (mj_u f 223 0 0) ((c + 1 : Nat) : Int) r'.1 r'.2) (v := v) ?_ (Cor_r _ _) ?_ (Cor_t Cor_0 Cor_rq)
    · rw [c_X_bound hw, X_isTable hw, mj_bi_some]
      simp only [i01]
      rw [if_pos (by omega), mj_gd_pos ⟨by omega, by omega⟩, Int.toNat_natCast, X_boundOf hw f (zn215 ht) xc hc4, mj_bi_some, if_pos (by omega), show ((i : Int) - 1 + 1).toNat = i by omega, show ((j : Int) - 1 + 1).toNat = j by omega, show 215 + 2 * t + 1 = 216 + 2 * t by omega, hv]
    · simp only [c_M_bound hw, M_isTable hw, M_arePair hw _ mc' (by omega), M_isTwo hw, mj_bi_some, i01, wM1 (show i < 1000 by omega), wM1 (show j < 1000 by omega)]
      rw [if_neg (by omega), if_neg (by omega), if_pos (by omega), l1, mj_bu_some, rq_v, ← (TS_01 l2).2.2, hv]
      by_cases h : f (215 + 2 * t) 2 = 0
      · have l3 := TS_00 l2 h
        rw [if_pos h, if_pos h, R_get hw _ _ _ _ (by omega) (by omega), mj_bi_some, M_tld hw, mj_bi_some, TS_tel l3 (by omega) (by omega)]
      · rw [if_neg h, if_neg h]
  · refine Ok_i ⟨c, np, ne, st, N, L, nx, d, tp, ed, r⟩ (F1 := f) (F3 := mj_u f 223 0 0) (v := -2000) ?_ (Cor_r _ _) ?_ Cor_0
    · by_cases h1 : 0 ≤ x1 ∧ x1 < ((4 : Nat) : Int)
      · rw [c_X_bound hw, X_isTable hw, mj_bi_some]
        simp only [i01]
        rw [if_pos (by omega), mj_gd_pos h1, X_boundOf hw f (zz31 h1) xc hc4, mj_bi_some, if_neg (by omega)]
      simp only [c_X_bound hw, X_isTable hw, mj_bi_some, i01]
      repeat' split
      all_goals first | rfl | (exfalso; omega)
    · simp only [c_M_bound hw, M_isTable hw, M_arePair hw _ mc' (by omega), M_isTwo hw, mj_bi_some, i01]
      repeat' split
      all_goals first | rfl | (exfalso; omega)
theorem ok_nodeBound (hw : wk sw w) {f : mj_F} (r : RR sw f) (x1 x2 x3 x4 : Int) : Ok sw w f yX_nodeBound yM_nodeBound [.inl x1, .inl x2, .inl x3, .inl x4] := by
  obtain ⟨c, np, ne, st, N, L, nx, d, tp, ed, r⟩ := r
  obtain ⟨⟨hc4, hn8, he16, _, _⟩, ⟨_, xc, mc, xp, mp, xe, me, xs, ms⟩, hL, hE, h0, hg⟩ := r.1
  have xn := r.2.2.1.2.1
  have mn := r.2.2.1.2.2.1
  have hN := r.2.2.1.1
  have mc' : mj_u f 223 0 0 223 2 = (c : Int) := mc
  have mp' : mj_u f 223 0 0 223 3 = (np : Int) := mp
  have me' : mj_u f 223 0 0 223 4 = (ne : Int) := me
  have mn' : mj_u f 223 0 0 223 23 = (N : Int) := mn
  by_cases hV : (0 ≤ x1 ∧ x1 < (N : Int)) ∧ ((-1 ≤ x2 ∧ x2 < (c : Int)) ∧ (-1 ≤ x3 ∧ x3 < (c : Int)) ∧ x2 ≠ x3) ∧ (0 ≤ x4 ∧ x4 < 2)
  · obtain ⟨k, rfl⟩ : ∃ k : Nat, x1 = (k : Int) := ⟨x1.toNat, by omega⟩
    obtain ⟨i, rfl⟩ : ∃ i : Nat, x2 = (i : Int) - 1 := ⟨(x2 + 1).toNat, by omega⟩
    obtain ⟨j, rfl⟩ : ∃ j : Nat, x3 = (j : Int) - 1 := ⟨(x3 + 1).toNat, by omega⟩
    have hk : k < N := by omega
    obtain ⟨r', l1, l0, l2⟩ := loadN hw r.2.2.1 (LD_0 r) hk
    have hz := (TS_01 l2).2.2
    have h : f (48 + 2 * k) 2 = 0 := by rw [l0] at hz; exact hz
    have l3 : TS (c + 1) 802 (0, gm (49 + 2 * k) 6 f) (0, r'.2) := by rw [h, show r' = (0, r'.2) from Prod.ext l0 rfl] at l2; exact l2
    refine Ok_i ⟨c, np, ne, st, N, L, nx, d, tp, ed, r⟩ (F1 := f) (F3 := rq (mj_u f 223 0 0) ((c + 1 : Nat) : Int) r'.1 r'.2) (v := tel (gm (49 + 2 * k) 6 f i j) x4) ?_ (Cor_r _ _) ?_ (Cor_t Cor_0 Cor_rq)
    · rw [c_X_nodeBound hw, X_isNode hw f xn, mj_bi_some]
      simp only [i01]
      rw [if_pos (by omega), mj_gd_pos ⟨by omega, by omega⟩, Int.toNat_natCast, X_boundOf hw f (zn48 (by omega)) xc hc4, mj_bi_some, if_pos (by omega), if_pos h, show ((i : Int) - 1 + 1).toNat = i by omega, show ((j : Int) - 1 + 1).toNat = j by omega, show 48 + 2 * k + 1 = 49 + 2 * k by omega]
    · simp only [c_M_nodeBound hw, M_in1 hw _ mn' (by omega), M_arePair hw _ mc' (by omega), M_isTwo hw, mj_bi_some, i01, wM1 (show i < 1000 by omega), wM1 (show j < 1000 by omega)]
      rw [if_neg (by omega), if_neg (by omega), if_pos (by omega), l1, mj_bu_some]
      rw [R_get hw _ _ _ _ (by omega) (by omega), mj_bi_some, M_tld hw, mj_bi_some, TS_tel l3 (by omega) (by omega)]
  · refine Ok_i ⟨c, np, ne, st, N, L, nx, d, tp, ed, r⟩ (F1 := f) (F3 := mj_u f 223 0 0) (v := -2000) ?_ (Cor_r _ _) ?_ Cor_0
    · by_cases h1 : 0 ≤ x1 ∧ x1 < (N : Int)
      · rw [c_X_nodeBound hw, X_isNode hw f xn, mj_bi_some]
        simp only [i01]
        rw [if_pos (by omega), mj_gd_pos (show 0 ≤ x1 ∧ x1 < ((60 : Nat) : Int) from ⟨by omega, by omega⟩), X_boundOf hw f (zz38 (show 0 ≤ x1 ∧ x1 < ((60 : Nat) : Int) from ⟨by omega, by omega⟩)) xc hc4, mj_bi_some, if_neg (by omega)]
      simp only [c_X_nodeBound hw, X_isNode hw f xn, mj_bi_some, i01]
      repeat' split
      all_goals first | rfl | (exfalso; omega)
    · simp only [c_M_nodeBound hw, M_in1 hw _ mn' (by omega), M_arePair hw _ mc' (by omega), M_isTwo hw, mj_bi_some, i01]
      repeat' split
      all_goals first | rfl | (exfalso; omega)
theorem ok_empty (hw : wk sw w) {f : mj_F} (r : RR sw f) (x1 : Int) : Ok sw w f yX_empty yM_empty [.inl x1] := by
  obtain ⟨c, np, ne, st, N, L, nx, d, tp, ed, r⟩ := r
  obtain ⟨⟨hc4, hn8, he16, _, _⟩, ⟨_, xc, mc, xp, mp, xe, me, xs, ms⟩, hL, hE, h0, hg⟩ := r.1
  have xn := r.2.2.1.2.1
  have mn := r.2.2.1.2.2.1
  have hN := r.2.2.1.1
  have mc' : mj_u f 223 0 0 223 2 = (c : Int) := mc
  have mp' : mj_u f 223 0 0 223 3 = (np : Int) := mp
  have me' : mj_u f 223 0 0 223 4 = (ne : Int) := me
  have mn' : mj_u f 223 0 0 223 23 = (N : Int) := mn
  by_cases hV : 0 ≤ x1 ∧ x1 < 4
  · obtain ⟨t, rfl⟩ : ∃ t : Nat, x1 = (t : Int) := ⟨x1.toNat, by omega⟩
    have ht : t < 4 := by omega
    have e := (TS_01 (r.2.1 t ht).2)
    have e1 : f (215 + 2 * t) 2 = f 234 (100 + t) := e.2.2
    have e2 : f (215 + 2 * t) 2 = 0 ∨ f (215 + 2 * t) 2 = 1 := e.1
    refine Ok_i ⟨c, np, ne, st, N, L, nx, d, tp, ed, r⟩ (F1 := f) (F3 := mj_u f 223 0 0) (v := f (215 + 2 * t) 2) ?_ (Cor_r _ _) ?_ Cor_0
    · simp only [c_X_empty hw, X_isTable hw, mj_bi_some, i01, Int.toNat_natCast]
      rw [if_pos (by omega), mj_gd_pos ⟨by omega, by omega⟩]
      rcases e2 with h | h
      · rw [if_pos h, h]
      · rw [if_neg (by omega), h]
    · simp only [c_M_empty hw, M_isTable hw, mj_bi_some, i01]
      rw [if_neg (by omega), w100 ht, mj_gd_pos ⟨by omega, by omega⟩, Int.toNat_natCast, u_o (Or.inl (by decide)), e1]
  · refine Ok_i ⟨c, np, ne, st, N, L, nx, d, tp, ed, r⟩ (F1 := f) (F3 := mj_u f 223 0 0) (v := -1) ?_ (Cor_r _ _) ?_ Cor_0
    · simp only [c_X_empty hw, X_isTable hw, mj_bi_some, i01]
      repeat' split
      all_goals first | rfl | (exfalso; omega)
    · simp only [c_M_empty hw, M_isTable hw, mj_bi_some, i01]
      repeat' split
      all_goals first | rfl | (exfalso; omega)
theorem ok_width (hw : wk sw w) {f : mj_F} (r : RR sw f) (x1 x2 x3 x4 : Int) : Ok sw w f yX_width yM_width [.inl x1, .inl x2, .inl x3, .inl x4] := by
  obtain ⟨c, np, ne, st, N, L, nx, d, tp, ed, r⟩ := r
  obtain ⟨⟨hc4, hn8, he16, _, _⟩, ⟨_, xc, mc, xp, mp, xe, me, xs, ms⟩, hL, hE, h0, hg⟩ := r.1
  have xn := r.2.2.1.2.1
  have mn := r.2.2.1.2.2.1
  have hN := r.2.2.1.1
  have mc' : mj_u f 223 0 0 223 2 = (c : Int) := mc
  have mp' : mj_u f 223 0 0 223 3 = (np : Int) := mp
  have me' : mj_u f 223 0 0 223 4 = (ne : Int) := me
  have mn' : mj_u f 223 0 0 223 23 = (N : Int) := mn
  by_cases hV : (0 ≤ x1 ∧ x1 < 4) ∧ ((-1 ≤ x2 ∧ x2 < (c : Int)) ∧ (-1 ≤ x3 ∧ x3 < (c : Int)) ∧ x2 ≠ x3) ∧ (0 ≤ x4 ∧ x4 < 2)
  · obtain ⟨t, rfl⟩ : ∃ t : Nat, x1 = (t : Int) := ⟨x1.toNat, by omega⟩
    obtain ⟨i, rfl⟩ : ∃ i : Nat, x2 = (i : Int) - 1 := ⟨(x2 + 1).toNat, by omega⟩
    obtain ⟨j, rfl⟩ : ∃ j : Nat, x3 = (j : Int) - 1 := ⟨(x3 + 1).toNat, by omega⟩
    have ht : t < 4 := by omega
    obtain ⟨r', l1, l2⟩ := loadT hw r.2.1 (LD_0 r) ht
    obtain ⟨v, hv⟩ : ∃ v, v = if f (215 + 2 * t) 2 = 0 then tel (cp (gm (216 + 2 * t) 6 f i j) (gm (216 + 2 * t) 6 f j i)) x4 else -1000 := ⟨_, rfl⟩
    refine Ok_i ⟨c, np, ne, st, N, L, nx, d, tp, ed, r⟩ (F1 := f) (F3 := rq (mj_u f 223 0 0) ((c + 1 : Nat) : Int) r'.1 r'.2) (v := v) ?_ (Cor_r _ _) ?_ (Cor_t Cor_0 Cor_rq)
    · simp only [c_X_width hw, X_isTable hw, X_isPair hw f xc, mj_bi_some, i01, Int.toNat_natCast, wM1 (show i < 1000 by omega), wM1 (show j < 1000 by omega)]
      rw [if_neg (by omega), if_neg (by omega), if_neg (by omega), if_pos (by omega), mj_gd_pos ⟨by omega, by omega⟩, hv]
      by_cases h : f (215 + 2 * t) 2 = 0
      · rw [if_pos h, if_pos h, Z_cellf hw (zn215 ht) f (by omega) (by omega), mj_bi_some, Z_cellf hw (zn215 ht) f (by omega) (by omega), mj_bi_some, X_sumOf hw, mj_bi_some, X_tellBound hw, mj_bi_some, show 215 + 2 * t + 1 = 216 + 2 * t by omega]
      · rw [if_neg h, if_neg h]
    · simp only [c_M_width hw, M_isTable hw, M_arePair hw _ mc' (by omega), M_isTwo hw, mj_bi_some, i01, wM1 (show i < 1000 by omega), wM1 (show j < 1000 by omega)]
      rw [if_neg (by omega), if_neg (by omega), if_pos (by omega), l1, mj_bu_some, rq_v, ← (TS_01 l2).2.2, hv]
      by_cases h : f (215 + 2 * t) 2 = 0
      · have l3 := TS_00 l2 h
        have e : tel (cp (gm (216 + 2 * t) 6 f i j) (gm (216 + 2 * t) 6 f j i)) x4 = tld (rp (r'.2 i j) (r'.2 j i)) x4 := by
          rcases TS_sum (by decide) l3 (show i < c + 1 by omega) (show j < c + 1 by omega) (show j < c + 1 by omega) (show i < c + 1 by omega) with ⟨a, b⟩ | ⟨a, b, c⟩
          · exact tel_n (by omega) (by omega) x4
          · exact tel_s a b c x4
        rw [if_pos h, if_pos h, R_get hw _ _ _ _ (by omega) (by omega), mj_bi_some, R_get hw _ _ _ _ (by omega) (by omega), mj_bi_some, M_plus hw, mj_bi_some, M_tld hw, mj_bi_some, e]
      · rw [if_neg h, if_neg h]
  · refine Ok_i ⟨c, np, ne, st, N, L, nx, d, tp, ed, r⟩ (F1 := f) (F3 := mj_u f 223 0 0) (v := -2000) ?_ (Cor_r _ _) ?_ Cor_0
    · simp only [c_X_width hw, X_isTable hw, X_isPair hw f xc, mj_bi_some, i01]
      repeat' split
      all_goals first | rfl | (exfalso; omega)
    · simp only [c_M_width hw, M_isTable hw, M_arePair hw _ mc' (by omega), M_isTwo hw, mj_bi_some, i01]
      repeat' split
      all_goals first | rfl | (exfalso; omega)
end QU
