/-! lay, join. -/
theorem TS_zero {n : Nat} {M : Int} (hM : 2 ≤ M) {A : Mt} (hA : ∀ i j, i < n → j < n → A i j = 1) : TS n M (0, fun _ _ => 1) (0, A) := by
  refine Or.inr ⟨rfl, rfl, ⟨fun i _ => rfl, fun i j k _ _ _ => ?_⟩, fun j _ => ble_r _, fun i j x _ _ hx => ?_, fun i j hi hj => ?_, fun i j _ _ => ⟨by show (-100000000 : Int) < 1; decide, by show (1 : Int) ≤ 268435456; decide, Or.inl (by show (1 : Int) < 100000000; decide)⟩, fun i j hi hj => ?_⟩
  · show (1 : Int) ≤ pz 1 1
    decide
  · have : (1 : Int) = x := Option.some.inj hx
    omega
  · show cv 1 = rv (A i j)
    rw [hA i j hi hj]
    rfl
  · show -1000000 < A i j ∧ A i j ≤ 1000000
    rw [hA i j hi hj]
    exact ⟨by decide, by decide⟩
def allT : Bt := fun i j => if i = 0 ∨ i = j then some 1 else none
theorem zlk_T {n : Nat} : Eqn n allT (cT (zlk n n)) := by
  intro i j hi hj
  show (if i = 0 ∨ i = j then some 1 else none) = cv (zlk n n i j)
  unfold zlk
  by_cases h : i = 0 ∨ i = j
  · rw [if_pos h, if_neg (by omega)]
    rfl
  · rw [if_neg h, if_pos (by omega)]
    rfl
theorem allT_cl (n : Nat) : Cl n allT := by
  refine ⟨fun i _ => if_pos (Or.inr rfl), fun i j k _ _ _ => ?_⟩
  unfold allT
  by_cases h1 : i = 0 ∨ i = j
  · rw [if_pos h1]
    by_cases h2 : i = 0 ∨ i = k
    · rw [if_pos h2]
      by_cases h3 : k = 0 ∨ k = j
      · rw [if_pos h3]; show (1 : Int) ≤ pz 1 1; decide
      · rw [if_neg h3]; exact ble_none _
    · rw [if_neg h2]; exact ble_none _
  · rw [if_neg h1]
    by_cases h2 : i = 0 ∨ i = k
    · rw [if_pos h2, if_neg (by omega)]; exact ble_none _
    · rw [if_neg h2]; exact ble_none _
theorem TS_all {n : Nat} {M : Int} (hM : 2 ≤ M) {A : Mt} (hA : ∀ i j, i < n → j < n → A i j = wdM i j) : TS n M (0, zlk n n) (0, A) := by
  refine Or.inr ⟨rfl, rfl, Cl_e zlk_T (allT_cl n), fun j hj => ?_, Bb_e zlk_T (fun i j x _ _ hx => ?_), fun i j hi hj => ?_, fun i j _ _ => ?_, fun i j hi hj => ?_⟩
  · rw [← zlk_T 0 j (by omega) hj]
    exact ble_r _
  · unfold allT at hx
    split at hx
    · have : (1 : Int) = x := Option.some.inj hx
      omega
    · cases hx
  · rw [← zlk_T i j hi hj]
    show (if i = 0 ∨ i = j then some 1 else none) = rv (A i j)
    rw [hA i j hi hj]
    unfold wdM
    split <;> rfl
  · show -100000000 < zlk n n i j ∧ zlk n n i j ≤ 268435456 ∧ (zlk n n i j < 100000000 ∨ zlk n n i j = 268435456)
    unfold zlk
    split <;> omega
  · show -1000000 < A i j ∧ A i j ≤ 1000000
    rw [hA i j hi hj]
    unfold wdM
    split <;> omega
/-- two tables joined: flag and square, in the class -/
def jnC (f : mj_F) (t s : Nat) : Int × Mt := if f (215 + 2 * s) 2 = 0 then (if f (215 + 2 * t) 2 = 0 then (0, zm 36 (mxM (gm (216 + 2 * t) 6 f) (gm (216 + 2 * s) 6 f)) (gm (216 + 2 * t) 6 f)) else (f (215 + 2 * s) 2, gm (216 + 2 * s) 6 f)) else (f (215 + 2 * t) 2, gm (216 + 2 * t) 6 f)
theorem w100 {u : Nat} (hu : u < 4) : mj_w (100 + (u : Int)) = ((100 + u : Nat) : Int) := by unfold mj_w; omega
theorem w01 {x y : Int} (h1 : x = 0 ∨ x = 1) (h2 : y = 0 ∨ y = 1) : mj_w (x + y) = x + y := by unfold mj_w; omega
section MU
variable {sw : Bool} {w : mj_W}
theorem R_join67 (hw : wk sw w) (g : mj_F) {n t s : Nat} (hn : n ≤ 5) (hs : s < 4) (v : Int) (A : Mt) : mj_run yM_join w (rq g n v A) 67 [.inr (.inl 223), .inl (t : Int), .inl (s : Int), .inl 0, .inr (.inr (.inr 0))] [] = mj_bi (mj_call yM_becomesTable w (rq g n v (sqn n (mxM A (tsq g 234 s)) A)) [.inr (.inl 223), .inl (t : Int)]) (fun f v => some (w, f, some (.inl v))) := by
  obtain ⟨u, h⟩ := loop_ex (fun k (_ : Unit) (u : mj_V) => mj_run yM_join w (rq g n v (sqf n k 0 (mxM A (tsq g 234 s)) A)) 67 [.inr (.inl 223), .inl (t : Int), .inl (s : Int), .inl (k : Int), u] []) (fun _ a => a) n (fun k _ u hk => by
    rw [l_M_join_67 hw, rq_n, if_neg (by omega)]
    have h := loop_st (fun l => mj_run yM_join w (rq g n v (sqf n k l (mxM A (tsq g 234 s)) A)) 78 [.inr (.inl 223), .inl (t : Int), .inl (s : Int), .inl (k : Int), .inl (l : Int)] []) (Nat.zero_le n) (fun l _ hl => by
      have e2 : tsq (rq g n v (sqf n k l (mxM A (tsq g 234 s)) A)) 234 s k l = tsq g 234 s k l := rq_o (by decide) (by decide)
      rw [l_M_join_78 hw, rq_n, if_neg (by omega), M_other hw _ hs (by omega) (by omega), mj_bi_some, e2, R_get hw g _ v _ (by omega) (by omega), mj_bi_some, sqf_at]
      by_cases hb : tsq g 234 s k l ≤ A k l
      · rw [if_pos hb, wS (by omega), sqf_K (l := l) (by unfold mxM; rw [if_neg (by omega)])]
      · rw [if_neg hb, M_other hw _ hs (by omega) (by omega), mj_bi_some, e2, R_put hw g _ v _ _ (by omega) (by omega), mj_bu_some, wS (by omega), ← sqf_S]
        have e3 : mxM A (tsq g 234 s) k l = tsq g 234 s k l := by unfold mxM; rw [if_pos (by omega)]
        rw [e3])
    refine ⟨.inl (n : Int), h.trans ?_⟩
    rw [l_M_join_78 hw, rq_n, if_pos (by omega), wS (by omega), sqf_R]) () (.inr (.inr (.inr 0)))
  rw [sqf_0] at h
  refine h.trans ?_
  rw [l_M_join_67 hw, rq_n, if_pos (by omega)]
  rfl
theorem ok_lay (hw : wk sw w) {f : mj_F} (r : RR sw f) (x1 x2 : Int) : Ok sw w f yX_lay yM_lay [.inl x1, .inl x2] := by
  obtain ⟨c, np, ne, st, N, L, nx, d, tp, ed, r⟩ := r
  obtain ⟨⟨hc4, hn8, he16, _, _⟩, ⟨_, xc, mc, xp, mp, xe, me, xs, ms⟩, hL, hE, h0, hg⟩ := r.1
  have xn := r.2.2.1.2.1
  have mn := r.2.2.1.2.2.1
  have hN := r.2.2.1.1
  have mc' : mj_u f 223 0 0 223 2 = (c : Int) := mc
  have mp' : mj_u f 223 0 0 223 3 = (np : Int) := mp
  have me' : mj_u f 223 0 0 223 4 = (ne : Int) := me
  have mn' : mj_u f 223 0 0 223 23 = (N : Int) := mn
  by_cases hV : (0 ≤ x1 ∧ x1 < 4) ∧ (0 ≤ x2 ∧ x2 ≤ 2)
  · obtain ⟨t, rfl⟩ : ∃ t : Nat, x1 = (t : Int) := ⟨x1.toNat, by omega⟩
    have ht : t < 4 := by omega
    have hcc : c < 2147483647 := by omega
    have hx2 : x2 = 0 ∨ x2 = 1 ∨ x2 = 2 := by omega
    rcases hx2 with rfl | rfl | rfl
    · have T : ∀ J, TS (c + 1) 802 (0, fun _ _ => 1) (0, sqn (c + 1) (fun _ _ => 1) J) := fun J => TS_zero (by decide) (fun i j hi hj => sqn_in hi hj)
      obtain ⟨F1, a, s1, s2, s3⟩ := op_ok hw r ht (q := (0, fun _ _ => 1)) (Or.inl rfl)
      obtain ⟨F3, m1, m2⟩ := s3 _ _ (T (gm 252 62 (mj_u F1 223 0 0)))
      refine ⟨F1, F3, 1, ?_, ?_, m2⟩
      · simp only [c_X_lay hw, X_isTable hw, mj_bi_some, i01]
        rw [if_neg (by omega), if_neg (by omega), if_pos (by omega), if_neg (by decide), xc, wS hcc, Z_layZero hw zn32, mj_bu_some, s1, mj_bi_some]
      · simp only [c_M_lay hw, M_isTable hw, M_isIn hw, mj_bi_some, i01]
        rw [if_neg (by omega), if_pos (by omega), R_nought hw _ s2.1.2.1.2.2.1 (by omega), mj_bu_some, if_pos (by decide), if_pos (by decide), rq_pv, m1, mj_bi_some]
    · have T : ∀ J, TS (c + 1) 802 (0, zlk (c + 1) (c + 1)) (0, sqn (c + 1) wdM J) := fun J => TS_all (by decide) (fun i j hi hj => sqn_in hi hj)
      obtain ⟨F1, a, s1, s2, s3⟩ := op_ok hw r ht (q := (0, zlk (c + 1) (c + 1))) (Or.inl rfl)
      obtain ⟨F3, m1, m2⟩ := s3 _ _ (T (sqn (c + 1) (fun _ _ => 1) (gm 252 62 (mj_u F1 223 0 0))))
      refine ⟨F1, F3, 1, ?_, ?_, m2⟩
      · simp only [c_X_lay hw, X_isTable hw, mj_bi_some, i01]
        rw [if_neg (by omega), if_neg (by omega), if_pos (by omega), if_pos (by decide), if_neg (by decide), xc, wS hcc, Z_layAll hw zn32 f (by omega) (by omega), mj_bu_some, s1, mj_bi_some]
      · simp only [c_M_lay hw, M_isTable hw, M_isIn hw, mj_bi_some, i01]
        rw [if_neg (by omega), if_pos (by omega), R_nought hw _ s2.1.2.1.2.2.1 (by omega), mj_bu_some, if_neg (by decide), R_wide hw _ (by omega), mj_bu_some, if_pos (by decide), rq_pv, m1, mj_bi_some]
    · obtain ⟨F1, a, s1, s2, s3⟩ := op_ok hw r ht (q := (1, fun _ _ => 1)) (Or.inr rfl)
      obtain ⟨F3, m1, m2⟩ := s3 802 (1, sqn (c + 1) (fun _ _ => 1) (gm 252 62 (mj_u F1 223 0 0))) (Or.inl ⟨rfl, rfl⟩)
      refine ⟨F1, F3, 1, ?_, ?_, m2⟩
      · simp only [c_X_lay hw, X_isTable hw, mj_bi_some, i01]
        rw [if_neg (by omega), if_neg (by omega), if_pos (by omega), if_pos (by decide), if_pos (by decide), xc, wS hcc, Z_layNothing hw zn32, mj_bu_some, s1, mj_bi_some]
      · simp only [c_M_lay hw, M_isTable hw, M_isIn hw, mj_bi_some, i01]
        rw [if_neg (by omega), if_pos (by omega), R_nought hw _ s2.1.2.1.2.2.1 (by omega), mj_bu_some, if_pos (by decide), if_neg (by decide), rq_pv, m1, mj_bi_some]
  · refine Ok_i ⟨c, np, ne, st, N, L, nx, d, tp, ed, r⟩ (F1 := f) (F3 := mj_u f 223 0 0) (v := 0) ?_ (Cor_r _ _) ?_ Cor_0
    · simp only [c_X_lay hw, X_isTable hw, mj_bi_some, i01]
      repeat' split
      all_goals first | rfl | (exfalso; omega)
    · simp only [c_M_lay hw, M_isTable hw, M_isIn hw, mj_bi_some, i01]
      repeat' split
      all_goals first | rfl | (exfalso; omega)
theorem ok_join (hw : wk sw w) {f : mj_F} (r : RR sw f) (x1 x2 : Int) : Ok sw w f yX_join yM_join [.inl x1, .inl x2] := by
  obtain ⟨c, np, ne, st, N, L, nx, d, tp, ed, r⟩ := r
  obtain ⟨⟨hc4, hn8, he16, _, _⟩, ⟨_, xc, mc, xp, mp, xe, me, xs, ms⟩, hL, hE, h0, hg⟩ := r.1
  have xn := r.2.2.1.2.1
  have mn := r.2.2.1.2.2.1
  have hN := r.2.2.1.1
  have mc' : mj_u f 223 0 0 223 2 = (c : Int) := mc
  have mp' : mj_u f 223 0 0 223 3 = (np : Int) := mp
  have me' : mj_u f 223 0 0 223 4 = (ne : Int) := me
  have mn' : mj_u f 223 0 0 223 23 = (N : Int) := mn
  by_cases hV : (0 ≤ x1 ∧ x1 < 4) ∧ (0 ≤ x2 ∧ x2 < 4)
  · obtain ⟨t, rfl⟩ : ∃ t : Nat, x1 = (t : Int) := ⟨x1.toNat, by omega⟩
    obtain ⟨s, rfl⟩ : ∃ s : Nat, x2 = (s : Int) := ⟨x2.toNat, by omega⟩
    have ht : t < 4 := by omega
    have hs : s < 4 := by omega
    have bt := (r.2.1 t ht).2
    have bs := (r.2.1 s hs).2
    have ft : f (215 + 2 * t) 2 = f 234 (100 + t) := (TS_01 bt).2.2
    have fs : f (215 + 2 * s) 2 = f 234 (100 + s) := (TS_01 bs).2.2
    have vt : f (215 + 2 * t) 2 = 0 ∨ f (215 + 2 * t) 2 = 1 := (TS_01 bt).1
    have vs : f (215 + 2 * s) 2 = 0 ∨ f (215 + 2 * s) 2 = 1 := (TS_01 bs).1
    have eX : ∀ F1 a, mj_call yX_settle w (zs 32 f ((c + 1 : Nat) : Int) (jnC f t s).1 (jnC f t s).2) [.inr (.inl 2), .inl (t : Int)] = some (w, F1, some (.inl a)) → mj_call yX_join w f [.inr (.inl 2), .inl (t : Int), .inl (s : Int)] = some (w, F1, some (.inl a)) := by
      intro F1 a s1
      simp only [c_X_join hw, X_isTable hw, mj_bi_some, i01]
      rw [if_neg (by omega), if_pos (by omega), mj_gd_pos ⟨by omega, by omega⟩, Int.toNat_natCast, bec hw r ht, mj_bu_some, mj_gd_pos ⟨by omega, by omega⟩, Int.toNat_natCast, Z_widenTo hw zn32 (zn215 hs) (by omega) f _ _ _ vs, mj_bu_some, show 215 + 2 * s + 1 = 216 + 2 * s by omega, (r.2.1 s hs).1]
      unfold jnC at s1
      by_cases h1 : f (215 + 2 * s) 2 = 0
      · rw [if_pos h1] at s1 ⊢
        by_cases h2 : f (215 + 2 * t) 2 = 0
        · rw [if_pos h2] at s1 ⊢
          rw [h2, s1, mj_bi_some]
        · rw [if_neg h2] at s1 ⊢
          rw [s1, mj_bi_some]
      · rw [if_neg h1] at s1 ⊢
        rw [s1, mj_bi_some]
    have hq : (jnC f t s).1 = 0 ∨ (jnC f t s).1 = 1 := by
      unfold jnC
      split
      · split
        · exact Or.inl rfl
        · exact vs
      · exact vt
    obtain ⟨F1, a, s1, s2, s3⟩ := op_ok hw r ht (q := jnC f t s) hq
    obtain ⟨ga, gp, gm', g3⟩ := id s2
    have e234 := gm' 234 (by omega)
    have gt : (0 : Int) ≤ ((100 + t : Nat) : Int) ∧ ((100 + t : Nat) : Int) < ((125 : Nat) : Int) := ⟨by omega, by omega⟩
    have gs : (0 : Int) ≤ ((100 + s : Nat) : Int) ∧ ((100 + s : Nat) : Int) < ((125 : Nat) : Int) := ⟨by omega, by omega⟩
    by_cases h2 : f (215 + 2 * t) 2 = 0
    · obtain ⟨r', l1, l2⟩ := loadT hw r.2.1 s2 ht
      by_cases h1 : f (215 + 2 * s) 2 = 0
      · have hr0 : r'.1 = 0 := by have := (TS_01 l2).2.2; rw [h2] at this; exact this.symm
        have T1 : TS (c + 1) 802 (jnC f t s) (0, sqn (c + 1) (mxM r'.2 (tsq (mj_u F1 223 0 0) 234 s)) r'.2) := by
          have t1 : TS (c + 1) 802 (0, gm (216 + 2 * t) 6 f) (0, r'.2) := by rw [h2, show r' = (0, r'.2) from Prod.ext hr0 rfl] at l2; exact l2
          have t2 : TS (c + 1) 802 (0, gm (216 + 2 * s) 6 f) (0, tsq (mj_u F1 223 0 0) 234 s) := by rw [← fs, h1] at bs; rw [tsq_c e234]; exact bs
          refine TS_e (TS_join (by decide) t1 t2) ?_ rfl (fun i j hi hj => ?_) (fun i j hi hj => sqn_in hi hj)
          · unfold jnC; rw [if_pos h1, if_pos h2]
          · unfold jnC; rw [if_pos h1, if_pos h2]; exact zm_in (by omega) (by omega)
        obtain ⟨F3, m1, m2⟩ := s3 _ _ T1
        refine ⟨F1, F3, a, eX F1 a s1, ?_, m2⟩
        simp only [c_M_join hw, M_isTable hw, mj_bi_some, i01]
        rw [if_neg (by omega), if_pos (by omega)]
        simp only [w100 ht, w100 hs, mj_gd_pos gt, mj_gd_pos gs, Int.toNat_natCast, e234]
        rw [if_pos (by omega), l1, mj_bu_some]
        simp only [rq_o (show (234 : Nat) ≠ 223 by decide) (show (234 : Nat) ≠ 252 by decide), e234]
        rw [w01 (by omega) (by omega), if_neg (by omega), R_join67 hw _ (by omega) hs, hr0, m1, mj_bi_some]
      · have T1 : TS (c + 1) 802 (jnC f t s) r' := by unfold jnC; rw [if_neg h1]; exact l2
        obtain ⟨F3, m1, m2⟩ := s3 _ _ T1
        refine ⟨F1, F3, a, eX F1 a s1, ?_, m2⟩
        simp only [c_M_join hw, M_isTable hw, mj_bi_some, i01]
        rw [if_neg (by omega), if_pos (by omega)]
        simp only [w100 ht, w100 hs, mj_gd_pos gt, mj_gd_pos gs, Int.toNat_natCast, e234]
        rw [if_pos (by omega), l1, mj_bu_some]
        simp only [rq_o (show (234 : Nat) ≠ 223 by decide) (show (234 : Nat) ≠ 252 by decide), e234]
        rw [w01 (by omega) (by omega), if_pos (by omega), m1, mj_bi_some]
    · obtain ⟨r', l1, l2⟩ := loadT hw r.2.1 s2 hs
      have T1 : TS (c + 1) 802 (jnC f t s) r' := by
        unfold jnC
        by_cases h1 : f (215 + 2 * s) 2 = 0
        · rw [if_pos h1, if_neg h2]; exact l2
        · rw [if_neg h1]
          refine Or.inl ⟨?_, ?_⟩
          · show f (215 + 2 * t) 2 = 1
            omega
          · have := (TS_01 l2).2.2
            rw [← this]
            show f (215 + 2 * s) 2 = 1
            omega
      obtain ⟨F3, m1, m2⟩ := s3 _ _ T1
      refine ⟨F1, F3, a, eX F1 a s1, ?_, m2⟩
      simp only [c_M_join hw, M_isTable hw, mj_bi_some, i01]
      rw [if_neg (by omega), if_pos (by omega)]
      simp only [w100 ht, w100 hs, mj_gd_pos gt, mj_gd_pos gs, Int.toNat_natCast, e234]
      rw [if_neg (by omega), l1, mj_bu_some]
      simp only [rq_o (show (234 : Nat) ≠ 223 by decide) (show (234 : Nat) ≠ 252 by decide), e234]
      rw [w01 (by omega) (by omega), if_pos (by omega), m1, mj_bi_some]
  · refine Ok_i ⟨c, np, ne, st, N, L, nx, d, tp, ed, r⟩ (F1 := f) (F3 := mj_u f 223 0 0) (v := -1) ?_ (Cor_r _ _) ?_ Cor_0
    · simp only [c_X_join hw, X_isTable hw, mj_bi_some, i01]
      repeat' split
      all_goals first | rfl | (exfalso; omega)
    · simp only [c_M_join hw, M_isTable hw, mj_bi_some, i01]
      repeat' split
      all_goals first | rfl | (exfalso; omega)
end MU
