/-! More calls that change a table. -/
theorem zrg_c {f g : mj_F} {p n k l : Nat} {C : Mt} (h : ∀ k, k ≤ 12 → g (p + k) = f (p + k)) : zrg g p n k l C = zrg f p n k l C := by
  unfold zrg gro
  rw [h 3 (by omega)]
/-- two tables met: flag and square, in the class -/
def ntC (f : mj_F) (c t s : Nat) : Int × Mt := if f (215 + 2 * t) 2 = 0 ∧ f (215 + 2 * s) 2 = 0 then zcl (c + 1) 0 (zm 36 (mnM (gm (216 + 2 * t) 6 f) (gm (216 + 2 * s) 6 f)) (gm (216 + 2 * t) 6 f)) else (1, gm (216 + 2 * t) 6 f)
theorem zm_in {g C : Mt} {i j : Nat} (hi : i < 6) (hj : j < 6) : zm 36 g C i j = g i j := by
  unfold zm
  rw [if_pos ⟨by omega, hj⟩]
theorem nt_TS {f g : mj_F} {c t s : Nat} (hc : c + 1 ≤ 5) (h1 : TS (c + 1) 802 (f (215 + 2 * t) 2, gm (216 + 2 * t) 6 f) (f 234 (100 + t), tsq f 234 t)) (h2 : TS (c + 1) 802 (f (215 + 2 * s) 2, gm (216 + 2 * s) 6 f) (f 234 (100 + s), tsq f 234 s)) (hg : g 234 = f 234) {q r : Int × Mt} (eq : q = ntC f c t s) (er : r = rcl (c + 1) (mtT g c t s)) : TS (c + 1) (bm 802 (c + 1)) q r := by
  have hbm := bmb hc
  have a1 : f (215 + 2 * t) 2 = f 234 (100 + t) := (TS_01 h1).2.2
  have a2 : f (215 + 2 * s) 2 = f 234 (100 + s) := (TS_01 h2).2.2
  subst eq er
  unfold ntC
  by_cases h : f (215 + 2 * t) 2 = 0 ∧ f (215 + 2 * s) 2 = 0
  · rw [if_pos h]
    have b1 : f 234 (100 + t) = 0 := a1.symm.trans h.1
    have b2 : f 234 (100 + s) = 0 := a2.symm.trans h.2
    rw [h.1, b1] at h1
    rw [h.2, b2] at h2
    have em : mtT g c t s = (0, (mtT g c t s).2) := by
      refine Prod.ext ?_ rfl
      show (if g 234 (100 + t) = 1 ∨ g 234 (100 + s) = 1 then (1 : Int) else 0) = 0
      rw [hg, b1, b2, if_neg (by decide)]
    rw [em]
    refine TS_narrow (by decide) (by omega) h1 h2 (fun i j hi hj => zm_in (by omega) (by omega)) (fun i j hi hj => ?_)
    unfold mtT
    dsimp only
    rw [sqn_in hi hj]
    unfold lsM
    rw [sqn_in hi hj, tsq_c hg, tsq_c hg]
  · rw [if_neg h]
    refine Or.inl ⟨rfl, rcl_v ?_⟩
    show (if g 234 (100 + t) = 1 ∨ g 234 (100 + s) = 1 then (1 : Int) else 0) = 1
    rw [hg, if_pos]
    have b1 : f 234 (100 + t) = 0 ∨ f 234 (100 + t) = 1 := (TS_01 h1).2.1
    have b2 : f 234 (100 + s) = 0 ∨ f 234 (100 + s) = 1 := (TS_01 h2).2.1
    omega
section MT
variable {sw : Bool} {w : mj_W}
theorem ntC_eq (hw : wk sw w) {f : mj_F} {c np ne st N L nx d tp t s : Nat} {ed : Nat → Nat} (r : RX sw f c np ne st N L nx d tp ed) (ht : t < 4) (hs : s < 4) : mj_call yZ_narrowTo w (zs 32 f ((c + 1 : Nat) : Int) (f (215 + 2 * t) 2) (gm (216 + 2 * t) 6 f)) [.inr (.inl 32), .inr (.inl (215 + 2 * s))] = some (w, zs 32 f ((c + 1 : Nat) : Int) (ntC f c t s).1 (ntC f c t s).2, none) := by
  have hc4 := r.1.1.1
  rw [Z_narrowTo hw zn32 (zn215 hs) (by omega) f (by omega), show 215 + 2 * s + 1 = 216 + 2 * s by omega]
  unfold ntC
  by_cases h : f (215 + 2 * t) 2 = 0 ∧ f (215 + 2 * s) 2 = 0
  · rw [if_pos h, if_pos h, h.1]
  · rw [if_neg h, if_neg h]
end MT
section MU
variable {sw : Bool} {w : mj_W}
theorem ok_pass (hw : wk sw w) {f : mj_F} (r : RR sw f) (x1 x2 : Int) : Ok sw w f yX_pass yM_pass [.inl x1, .inl x2] := by
  obtain ⟨c, np, ne, st, N, L, nx, d, tp, ed, r⟩ := r
  obtain ⟨⟨hc4, hn8, he16, _, _⟩, ⟨_, xc, mc, xp, mp, xe, me, xs, ms⟩, hL, hE, h0, hg⟩ := r.1
  have xn := r.2.2.1.2.1
  have mn := r.2.2.1.2.2.1
  have hN := r.2.2.1.1
  have mc' : mj_u f 223 0 0 223 2 = (c : Int) := mc
  have mp' : mj_u f 223 0 0 223 3 = (np : Int) := mp
  have me' : mj_u f 223 0 0 223 4 = (ne : Int) := me
  have mn' : mj_u f 223 0 0 223 23 = (N : Int) := mn
  by_cases hV : (0 ≤ x1 ∧ x1 < 4) ∧ (0 ≤ x2 ∧ x2 < 2)
  · obtain ⟨t, rfl⟩ : ∃ t : Nat, x1 = (t : Int) := ⟨x1.toNat, by omega⟩
    have ht : t < 4 := by omega
    have hb := (r.2.1 t ht).2
    have hbm := bmb (n := c + 1) (by omega)
    by_cases h2 : x2 = 0
    · subst h2
      obtain ⟨F1, a, s1, s2, s3⟩ := op_ok hw r ht (q := (f (215 + 2 * t) 2, zup (c + 1) (gm (216 + 2 * t) 6 f))) (TS_01 (TS_up hb)).1
      obtain ⟨r', l1, l2⟩ := loadT hw r.2.1 s2 ht
      obtain ⟨F3, m1, m2⟩ := s3 _ _ (TS_up l2)
      refine ⟨F1, F3, a, ?_, ?_, m2⟩
      · simp only [c_X_pass hw, X_isTable hw, mj_bi_some, i01]
        rw [if_neg (by omega), if_neg (by omega), if_pos (by omega), mj_gd_pos ⟨by omega, by omega⟩, Int.toNat_natCast, bec hw r ht, mj_bu_some, if_neg (by decide), Z_goUp hw zn32 f (by omega) (by omega), mj_bu_some, s1, mj_bi_some]
      · simp only [c_M_pass hw, M_isTable hw, M_isTwo hw, mj_bi_some, i01]
        rw [if_neg (by omega), if_pos (by omega), l1, mj_bu_some, if_neg (by decide), R_ups hw _ (by omega) (by omega), mj_bu_some, m1, mj_bi_some]
    · obtain ⟨F1, a, s1, s2, s3⟩ := op_ok hw r ht (q := (f (215 + 2 * t) 2, zdn (c + 1) (gm (216 + 2 * t) 6 f))) (TS_01 (TS_down (by decide) (by omega) hb)).1
      obtain ⟨r', l1, l2⟩ := loadT hw r.2.1 s2 ht
      obtain ⟨F3, m1, m2⟩ := s3 _ _ (TS_down (by decide) (by omega) l2)
      refine ⟨F1, F3, a, ?_, ?_, m2⟩
      · simp only [c_X_pass hw, X_isTable hw, mj_bi_some, i01]
        rw [if_neg (by omega), if_neg (by omega), if_pos (by omega), mj_gd_pos ⟨by omega, by omega⟩, Int.toNat_natCast, bec hw r ht, mj_bu_some, if_pos h2, Z_goDown hw zn32 f (by omega) (by omega), mj_bu_some, s1, mj_bi_some]
      · simp only [c_M_pass hw, M_isTable hw, M_isTwo hw, mj_bi_some, i01]
        rw [if_neg (by omega), if_pos (by omega), l1, mj_bu_some, if_pos h2, R_downs hw _ (by omega) (by omega) r' (TS_01 l2).2.1, mj_bu_some, m1, mj_bi_some]
  · refine Ok_i ⟨c, np, ne, st, N, L, nx, d, tp, ed, r⟩ (F1 := f) (F3 := mj_u f 223 0 0) (v := -1) ?_ (Cor_r _ _) ?_ Cor_0
    · simp only [c_X_pass hw, X_isTable hw, mj_bi_some, i01]
      repeat' split
      all_goals first | rfl | (exfalso; omega)
    · simp only [c_M_pass hw, M_isTable hw, M_isTwo hw, mj_bi_some, i01]
      repeat' split
      all_goals first | rfl | (exfalso; omega)
theorem ok_rough (hw : wk sw w) {f : mj_F} (r : RR sw f) (x1 : Int) : Ok sw w f yX_rough yM_rough [.inl x1] := by
  obtain ⟨c, np, ne, st, N, L, nx, d, tp, ed, r⟩ := r
  obtain ⟨⟨hc4, hn8, he16, _, _⟩, ⟨_, xc, mc, xp, mp, xe, me, xs, ms⟩, hL, hE, h0, hg⟩ := r.1
  have xn := r.2.2.1.2.1
  have mn := r.2.2.1.2.2.1
  have hN := r.2.2.1.1
  have mc' : mj_u f 223 0 0 223 2 = (c : Int) := mc
  have mp' : mj_u f 223 0 0 223 3 = (np : Int) := mp
  have me' : mj_u f 223 0 0 223 4 = (ne : Int) := me
  have mn' : mj_u f 223 0 0 223 23 = (N : Int) := mn
  by_cases hV : 0 ≤ x1 ∧ x1 < 4
  · obtain ⟨t, rfl⟩ : ∃ t : Nat, x1 = (t : Int) := ⟨x1.toNat, by omega⟩
    have ht : t < 4 := by omega
    have hb := (r.2.1 t ht).2
    have hb5 : bm 102 (c + 1) ≤ 1000000 := by
      have := bm5 (M := 102) (by decide) (show c + 1 ≤ 5 by omega)
      omega
    have hgf : ∀ g : mj_F, RA sw g c np ne st → ∀ i, i < c + 1 → gro g (pl sw) i = g 233 i ∧ 0 ≤ g 233 i ∧ g 233 i ≤ 50 := by
      intro g hg i hi
      unfold gro
      by_cases hi0 : i = 0
      · subst hi0
        rw [if_pos rfl, hg.2.2.2.2.1]
        exact ⟨rfl, by decide, by decide⟩
      · rw [if_neg hi0]
        have := hg.2.2.2.2.2 (i - 1) (by omega)
        rw [show i - 1 + 1 = i by omega] at this
        exact this
    by_cases h2 : f (215 + 2 * t) 2 = 0
    · have hb0 : TS (c + 1) 802 (0, gm (216 + 2 * t) 6 f) (f 234 (100 + t), tsq f 234 t) := by rw [h2] at hb; exact hb
      have hv0 : f 234 (100 + t) = 0 := (TS_01 hb0).2.2.symm
      have T0 := TS_rough (hgf f r.1) h0 (by decide) hb5 (show TS (c + 1) 802 (0, gm (216 + 2 * t) 6 f) (0, tsq f 234 t) by rw [hv0] at hb0; exact hb0)
      obtain ⟨F1, a, s1, s2, s3⟩ := op_ok hw r ht (q := zcl (c + 1) 0 (zrg f (pl sw) (c + 1) (c + 1) 0 (gm (216 + 2 * t) 6 f))) (TS_01 T0).1
      obtain ⟨r', l1, l2⟩ := loadT hw r.2.1 s2 ht
      obtain ⟨ga, gp, gm', g3⟩ := id s2
      have hr0 : r'.1 = 0 := by have := (TS_01 l2).2.2; rw [h2] at this; exact this.symm
      have T1 := TS_rough (hgf _ ga) ga.2.2.2.2.1 (by decide) hb5 (show TS (c + 1) 802 (0, gm (216 + 2 * t) 6 f) (0, r'.2) by rw [h2, show r' = (0, r'.2) from Prod.ext hr0 rfl] at l2; exact l2)
      rw [zrg_c gp] at T1
      obtain ⟨F3, m1, m2⟩ := s3 _ _ T1
      refine ⟨F1, F3, a, ?_, ?_, m2⟩
      · simp only [c_X_rough hw, X_isTable hw, mj_bi_some, i01]
        rw [if_pos (by omega), mj_gd_pos ⟨by omega, by omega⟩, Int.toNat_natCast, bec hw r ht, mj_bu_some, Z_roughen hw zn32 (pl_pn sw) f (by omega), if_pos h2, h2, mj_bu_some, s1, mj_bi_some]
      · simp only [c_M_rough hw, M_isTable hw, mj_bi_some, i01]
        rw [if_pos (by omega), l1, mj_bu_some, R_roughens hw _ (by omega) r' (TS_01 l2).2.1, if_pos hr0, hr0, mj_bu_some, m1, mj_bi_some]
    · obtain ⟨F1, a, s1, s2, s3⟩ := op_ok hw r ht (q := (f (215 + 2 * t) 2, gm (216 + 2 * t) 6 f)) (TS_01 hb).1
      obtain ⟨r', l1, l2⟩ := loadT hw r.2.1 s2 ht
      obtain ⟨F3, m1, m2⟩ := s3 _ _ l2
      refine ⟨F1, F3, a, ?_, ?_, m2⟩
      · simp only [c_X_rough hw, X_isTable hw, mj_bi_some, i01]
        rw [if_pos (by omega), mj_gd_pos ⟨by omega, by omega⟩, Int.toNat_natCast, bec hw r ht, mj_bu_some, Z_roughen hw zn32 (pl_pn sw) f (by omega), if_neg h2, mj_bu_some, s1, mj_bi_some]
      · simp only [c_M_rough hw, M_isTable hw, mj_bi_some, i01]
        rw [if_pos (by omega), l1, mj_bu_some, R_roughens hw _ (by omega) r' (TS_01 l2).2.1, if_neg (by have := (TS_01 l2).2.2; rw [← this]; exact h2), mj_bu_some, m1, mj_bi_some]
  · refine Ok_i ⟨c, np, ne, st, N, L, nx, d, tp, ed, r⟩ (F1 := f) (F3 := mj_u f 223 0 0) (v := -1) ?_ (Cor_r _ _) ?_ Cor_0
    · simp only [c_X_rough hw, X_isTable hw, mj_bi_some, i01]
      repeat' split
      all_goals first | rfl | (exfalso; omega)
    · simp only [c_M_rough hw, M_isTable hw, mj_bi_some, i01]
      repeat' split
      all_goals first | rfl | (exfalso; omega)
theorem ok_take (hw : wk sw w) {f : mj_F} (r : RR sw f) (x1 x2 : Int) : Ok sw w f yX_take yM_take [.inl x1, .inl x2] := by
  obtain ⟨c, np, ne, st, N, L, nx, d, tp, ed, r⟩ := r
  obtain ⟨⟨hc4, hn8, he16, _, _⟩, ⟨_, xc, mc, xp, mp, xe, me, xs, ms⟩, hL, hE, h0, hg⟩ := r.1
  have xn := r.2.2.1.2.1
  have mn := r.2.2.1.2.2.1
  have hN := r.2.2.1.1
  have mc' : mj_u f 223 0 0 223 2 = (c : Int) := mc
  have mp' : mj_u f 223 0 0 223 3 = (np : Int) := mp
  have me' : mj_u f 223 0 0 223 4 = (ne : Int) := me
  have mn' : mj_u f 223 0 0 223 23 = (N : Int) := mn
  by_cases hV : (0 ≤ x1 ∧ x1 < 4) ∧ (0 ≤ x2 ∧ x2 < (N : Int))
  · obtain ⟨t, rfl⟩ : ∃ t : Nat, x1 = (t : Int) := ⟨x1.toNat, by omega⟩
    obtain ⟨k, rfl⟩ : ∃ k : Nat, x2 = (k : Int) := ⟨x2.toNat, by omega⟩
    have ht : t < 4 := by omega
    have hk : k < N := by omega
    have hn := r.2.2.1.2.2.2.1 k hk
    have hb := hn.2.2.2.2.2.2.1
    obtain ⟨F1, a, s1, s2, s3⟩ := op_ok hw r ht (q := (f (48 + 2 * k) 2, gm (49 + 2 * k) 6 f)) (TS_01 hb).1
    obtain ⟨ga, gp, gm', g3⟩ := id s2
    have mnG : mj_u F1 223 0 0 223 23 = (N : Int) := (g3 23 (by unfold cM; omega)).trans mn
    obtain ⟨r', l1, l0, l2⟩ := loadN hw r.2.2.1 s2 hk
    obtain ⟨F3, m1, m2⟩ := s3 _ _ l2
    refine ⟨F1, F3, a, ?_, ?_, m2⟩
    · simp only [c_X_take hw, X_isTable hw, X_isNode hw f xn, mj_bi_some, i01]
      rw [if_neg (by omega), if_pos (by omega), mj_gd_pos ⟨by omega, by omega⟩, Int.toNat_natCast, Z_become hw zn32 (zn48 (by omega)) (by omega) f (TS_01 hb).1, hn.2.2.2.2.2.1, show 48 + 2 * k + 1 = 49 + 2 * k by omega, mj_bu_some, s1, mj_bi_some]
    · simp only [c_M_take hw, M_isTable hw, M_in1 hw _ mnG (by omega), mj_bi_some, i01]
      rw [if_neg (by omega), if_pos (by omega), l1, mj_bu_some, m1, mj_bi_some]
  · refine Ok_i ⟨c, np, ne, st, N, L, nx, d, tp, ed, r⟩ (F1 := f) (F3 := mj_u f 223 0 0) (v := -1) ?_ (Cor_r _ _) ?_ Cor_0
    · simp only [c_X_take hw, X_isTable hw, X_isNode hw f xn, mj_bi_some, i01]
      repeat' split
      all_goals first | rfl | (exfalso; omega)
    · simp only [c_M_take hw, M_isTable hw, M_in1 hw _ mn' (by omega), mj_bi_some, i01]
      repeat' split
      all_goals first | rfl | (exfalso; omega)
theorem ok_both (hw : wk sw w) {f : mj_F} (r : RR sw f) (x1 x2 : Int) : Ok sw w f yX_both yM_both [.inl x1, .inl x2] := by
  obtain ⟨c, np, ne, st, N, L, nx, d, tp, ed, r⟩ := r
  obtain ⟨⟨hc4, hn8, he16, _, _⟩, ⟨_, xc, mc, xp, mp, xe, me, xs, ms⟩, hL, hE, h0, hg⟩ := r.1
  have xn := r.2.2.1.2.1
  have mn := r.2.2.1.2.2.1
  have hN := r.2.2.1.1
  have mc' : mj_u f 223 0 0 223 2 = (c : Int) := mc
  have mp' : mj_u f 223 0 0 223 3 = (np : Int) := mp
  have me' : mj_u f 223 0 0 223 4 = (ne : Int) := me
  have mn' : mj_u f 223 0 0 223 23 = (N : Int) := mn
  by_cases hV : (0 ≤ x1 ∧ x1 < 4) ∧ (0 ≤ x2 ∧ x2 < 4)
  · obtain ⟨t, rfl⟩ : ∃ t : Nat, x1 = (t : Int) := ⟨x1.toNat, by omega⟩
    obtain ⟨s, rfl⟩ : ∃ s : Nat, x2 = (s : Int) := ⟨x2.toNat, by omega⟩
    have ht : t < 4 := by omega
    have hs : s < 4 := by omega
    have hc1 : c + 1 ≤ 5 := by omega
    obtain ⟨F1, a, s1, s2, s3⟩ := op_ok hw r ht (q := ntC f c t s) (TS_01 (nt_TS hc1 (r.2.1 t ht).2 (r.2.1 s hs).2 rfl rfl rfl)).1
    obtain ⟨ga, gp, gm', g3⟩ := id s2
    have T1 := nt_TS (g := mj_u F1 223 0 0) hc1 (r.2.1 t ht).2 (r.2.1 s hs).2 (gm' 234 (by omega)) rfl rfl
    obtain ⟨F3, m1, m2⟩ := s3 _ _ T1
    refine ⟨F1, F3, a, ?_, ?_, m2⟩
    · simp only [c_X_both hw, X_isTable hw, mj_bi_some, i01]
      rw [if_neg (by omega), if_pos (by omega), mj_gd_pos ⟨by omega, by omega⟩, Int.toNat_natCast, bec hw r ht, mj_bu_some, mj_gd_pos ⟨by omega, by omega⟩, Int.toNat_natCast, ntC_eq hw r ht hs, mj_bu_some, s1, mj_bi_some]
    · simp only [c_M_both hw, M_isTable hw, mj_bi_some, i01]
      rw [if_neg (by omega), if_pos (by omega), R_meetsTable hw _ ga.2.1.2.2.1 (by omega) ht hs, mj_bu_some, m1, mj_bi_some]
  · refine Ok_i ⟨c, np, ne, st, N, L, nx, d, tp, ed, r⟩ (F1 := f) (F3 := mj_u f 223 0 0) (v := -1) ?_ (Cor_r _ _) ?_ Cor_0
    · simp only [c_X_both hw, X_isTable hw, mj_bi_some, i01]
      repeat' split
      all_goals first | rfl | (exfalso; omega)
    · simp only [c_M_both hw, M_isTable hw, mj_bi_some, i01]
      repeat' split
      all_goals first | rfl | (exfalso; omega)
theorem ok_touch (hw : wk sw w) {f : mj_F} (r : RR sw f) (x1 x2 : Int) : Ok sw w f yX_touch yM_touch [.inl x1, .inl x2] := by
  obtain ⟨c, np, ne, st, N, L, nx, d, tp, ed, r⟩ := r
  obtain ⟨⟨hc4, hn8, he16, _, _⟩, ⟨_, xc, mc, xp, mp, xe, me, xs, ms⟩, hL, hE, h0, hg⟩ := r.1
  have xn := r.2.2.1.2.1
  have mn := r.2.2.1.2.2.1
  have hN := r.2.2.1.1
  have mc' : mj_u f 223 0 0 223 2 = (c : Int) := mc
  have mp' : mj_u f 223 0 0 223 3 = (np : Int) := mp
  have me' : mj_u f 223 0 0 223 4 = (ne : Int) := me
  have mn' : mj_u f 223 0 0 223 23 = (N : Int) := mn
  by_cases hV : (0 ≤ x1 ∧ x1 < 4) ∧ (0 ≤ x2 ∧ x2 < 4)
  · obtain ⟨t, rfl⟩ : ∃ t : Nat, x1 = (t : Int) := ⟨x1.toNat, by omega⟩
    obtain ⟨s, rfl⟩ : ∃ s : Nat, x2 = (s : Int) := ⟨x2.toNat, by omega⟩
    have ht : t < 4 := by omega
    have hs : s < 4 := by omega
    have hc1 : c + 1 ≤ 5 := by omega
    have hcr : Cor sw f (zs 32 f ((c + 1 : Nat) : Int) (ntC f c t s).1 (ntC f c t s).2) := Cor_zs (Or.inl rfl)
    generalize hF : zs 32 f ((c + 1 : Nat) : Int) (ntC f c t s).1 (ntC f c t s).2 = F at hcr
    have T1 := nt_TS (g := mj_u F 223 0 0) hc1 (r.2.1 t ht).2 (r.2.1 s hs).2 (by rw [← hcr.1 234 (cA_m (by omega))]; exact funext fun q => u_o (Or.inl (by decide))) rfl rfl
    refine Ok_i ⟨c, np, ne, st, N, L, nx, d, tp, ed, r⟩ (F1 := F) (F3 := rq (mj_u F 223 0 0) ((c + 1 : Nat) : Int) (rcl (c + 1) (mtT (mj_u F 223 0 0) c t s)).1 (rcl (c + 1) (mtT (mj_u F 223 0 0) c t s)).2) (v := if (ntC f c t s).1 = 0 then 1 else 0) ?_ hcr ?_ (Cor_t Cor_0 Cor_rq)
    · simp only [c_X_touch hw, X_isTable hw, mj_bi_some, i01]
      rw [if_neg (by omega), if_pos (by omega), mj_gd_pos ⟨by omega, by omega⟩, Int.toNat_natCast, bec hw r ht, mj_bu_some, mj_gd_pos ⟨by omega, by omega⟩, Int.toNat_natCast, ntC_eq hw r ht hs, mj_bu_some, zs_v, hF]
      by_cases h : (ntC f c t s).1 = 0
      · rw [if_pos h, if_pos h]
      · rw [if_neg h, if_neg h]
    · simp only [c_M_touch hw, M_isTable hw, mj_bi_some, i01]
      rw [if_neg (by omega), if_pos (by omega), R_meetsTable hw (mj_u F 223 0 0) (c := c) (show F 223 2 = (c : Int) from (hcr.2.2.2.2 2 (by unfold cM; omega)).trans mc) (by omega) ht hs, mj_bu_some, rq_v, ← (TS_01 T1).2.2]
      by_cases h : (ntC f c t s).1 = 0
      · rw [if_pos h, if_pos h]
      · rw [if_neg h, if_neg h]
  · refine Ok_i ⟨c, np, ne, st, N, L, nx, d, tp, ed, r⟩ (F1 := f) (F3 := mj_u f 223 0 0) (v := -1) ?_ (Cor_r _ _) ?_ Cor_0
    · simp only [c_X_touch hw, X_isTable hw, mj_bi_some, i01]
      repeat' split
      all_goals first | rfl | (exfalso; omega)
    · simp only [c_M_touch hw, M_isTable hw, mj_bi_some, i01]
      repeat' split
      all_goals first | rfl | (exfalso; omega)
end MU
