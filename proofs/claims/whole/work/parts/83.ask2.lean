/-! within, has. -/
theorem loop_any2 {γ δ β : Type} (R : Nat → γ → β) (Q : Nat → Nat → δ → β) (hit : β) (g : Nat → Nat → Bool) (n : Nat) (h0 : ∀ i u, i < n → ∃ v, R i u = Q i 0 v) (h1 : ∀ i j v, i < n → j < n → g i j = true → Q i j v = hit) (h2 : ∀ i j v, i < n → j < n → g i j = false → ∃ v', Q i j v = Q i (j + 1) v') (h3 : ∀ i v, i < n → ∃ u, Q i n v = R (i + 1) u) (u : γ) : (any n (fun i => any n (g i)) = true ∧ R 0 u = hit) ∨ (any n (fun i => any n (g i)) = false ∧ ∃ u', R 0 u = R n u') := by
  refine loop_any R hit (fun i => any n (g i)) n (fun i u hi hg => ?_) (fun i u hi hg => ?_) u
  · obtain ⟨v, e⟩ := h0 i u hi
    rcases loop_any (Q i) hit (g i) n (fun j v hj => h1 i j v hi hj) (fun j v hj => h2 i j v hi hj) v with ⟨_, b⟩ | ⟨a, _⟩
    · exact e.trans b
    · rw [hg] at a; cases a
  · obtain ⟨v, e⟩ := h0 i u hi
    rcases loop_any (Q i) hit (g i) n (fun j v hj => h1 i j v hi hj) (fun j v hj => h2 i j v hi hj) v with ⟨a, _⟩ | ⟨_, v', b⟩
    · rw [hg] at a; cases a
    · obtain ⟨u', e'⟩ := h3 i v' hi
      exact ⟨u', e.trans (b.trans e')⟩
theorem w5o {o i j : Nat} (ho : o ≤ 2000) (hi : i < 5) (hj : j < 5) : mj_w (mj_w ((o : Int) + mj_w (5 * (i : Int))) + (j : Int)) = ((o + 5 * i + j : Nat) : Int) := by unfold mj_w; omega
def insB (f : mj_F) (r1 o : Nat) (A : Mt) (i j : Nat) : Bool := decide (f r1 (o + 5 * i + j) < A i j)
def htB (t : Nat → Int) (b : Int) (A : Mt) (i j : Nat) : Bool := decide (A i j < 1000000 ∧ (b * (A i j / 2) < t i - t j ∨ b * (A i j / 2) = t i - t j ∧ A i j % 2 = 0))
theorem w64_id {a : Int} (h : -9223372036854775808 ≤ a ∧ a < 9223372036854775808) : mj_w64 a = a := by unfold mj_w64; omega
theorem ht_over {x y b k : Int} (hx : 0 ≤ x ∧ x < 2147483648) (hy : 0 ≤ y ∧ y < 2147483648) (hb : b = 1 ∨ b = 2) (hk : -1000000 ≤ k ∧ k ≤ 1000000) : mj_w64 (mj_w64 (x - y) - mj_w64 (b * k)) = x - y - b * k := by
  rcases hb with rfl | rfl
  · rw [w64_id (a := x - y) (by omega), w64_id (a := 1 * k) (by omega), w64_id (by omega)]
  · rw [w64_id (a := x - y) (by omega), w64_id (a := 2 * k) (by omega), w64_id (by omega)]
theorem cmp_0 (x : Int) : (0 < mj_cmp x 0 ↔ 0 < x) ∧ (mj_cmp x 0 = 0 ↔ x = 0) := by
  unfold mj_cmp
  split
  · exact ⟨by omega, by omega⟩
  · split
    · exact ⟨by omega, by omega⟩
    · exact ⟨by omega, by omega⟩
theorem w25 {t : Nat} (h : t < 100) : mj_w (25 * (t : Int)) = ((25 * t : Nat) : Int) := by unfold mj_w; omega
section QU
variable {sw : Bool} {w : mj_W}
theorem R_isInside (hw : wk sw w) (f : mj_F) {n r1 nr o : Nat} (hr1 : w.1 r1 = (100, nr)) (hr : r1 ≠ 223 ∧ r1 ≠ 252) (hn : n ≤ 5) (ho : o + 25 ≤ nr) (hnr : nr ≤ 2000) (v : Int) (A : Mt) : mj_call yM_isInside w (rq f n v A) [.inr (.inl 223), .inr (.inl r1), .inl (o : Int)] = some (w, rq f n v A, some (.inl (if any n (fun i => any n (insB f r1 o A i)) = true then 0 else 1))) := by
  rw [c_M_isInside hw _ r1 nr _ hr1]
  rcases loop_any2 (fun i (u : mj_V) => mj_run yM_isInside w (rq f n v A) 2 [.inr (.inl 223), .inr (.inl r1), .inl (o : Int), .inl (i : Int), u] []) (fun i j (_ : Unit) => mj_run yM_isInside w (rq f n v A) 13 [.inr (.inl 223), .inr (.inl r1), .inl (o : Int), .inl (i : Int), .inl (j : Int)] []) (some (w, rq f n v A, some (.inl 0))) (insB f r1 o A) n (fun i u hi => ⟨(), by
      rw [l_M_isInside_2 hw _ r1 nr _ _ _ hr1, rq_n, if_neg (by omega)]; rfl⟩) (fun i j _ hi hj hg => by
      have hg' : f r1 (o + 5 * i + j) < A i j := of_decide_eq_true hg
      rw [l_M_isInside_13 hw _ r1 nr _ _ _ hr1, rq_n, if_neg (by omega), R_get hw f n v A (by omega) (by omega), mj_bi_some, w5o (by omega) (by omega) (by omega), mj_gd_pos ⟨by omega, by omega⟩, Int.toNat_natCast, rq_o hr.1 hr.2, if_neg (by omega)]) (fun i j _ hi hj hg => ⟨(), by
      have hg' : ¬ f r1 (o + 5 * i + j) < A i j := of_decide_eq_false hg
      rw [l_M_isInside_13 hw _ r1 nr _ _ _ hr1, rq_n, if_neg (by omega), R_get hw f n v A (by omega) (by omega), mj_bi_some, w5o (by omega) (by omega) (by omega), mj_gd_pos ⟨by omega, by omega⟩, Int.toNat_natCast, rq_o hr.1 hr.2, if_pos (by omega), wS (by omega)]⟩) (fun i _ hi => ⟨.inl (n : Int), by
      rw [l_M_isInside_13 hw _ r1 nr _ _ _ hr1, rq_n, if_pos (by omega), wS (by omega)]⟩) (.inr (.inr (.inr 0))) with ⟨a, b⟩ | ⟨a, u, b⟩
  · rw [if_pos a]
    exact b
  · rw [if_neg (by rw [a]; decide)]
    refine b.trans ?_
    rw [l_M_isInside_2 hw _ r1 nr _ _ _ hr1, rq_n, if_pos (by omega)]
theorem R_hasTimes (hw : wk sw w) (f : mj_F) {n : Nat} (hn : n ≤ 5) (v : Int) (A : Mt) {b : Int} (hb : b = 1 ∨ b = 2) (hA : v = 0 → NI n A) (ht : ∀ i, i < n → 0 ≤ f 253 i ∧ f 253 i < 2147483648) : mj_call yM_hasTimes w (rq f n v A) [.inr (.inl 223), .inl b] = some (w, rq f n v A, some (.inl (if v = 0 ∧ any n (fun i => any n (htB (f 253) b A i)) = false then 1 else 0))) := by
  rw [c_M_hasTimes hw, rq_v]
  by_cases hv : v = 0
  · rw [if_pos hv]
    have hA' := hA hv
    have key : ∀ i j, i < n → j < n → A i j < 1000000 → mj_w64 (mj_w64 (f 253 i - f 253 j) - mj_w64 (b * mj_shr (A i j) 1)) = f 253 i - f 253 j - b * (A i j / 2) := by
      intro i j hi hj h
      have h1 := hA' i j hi hj
      rw [shr_1 (by omega)]
      exact ht_over (ht i hi) (ht j hj) hb (by omega)
    rcases loop_any2 (fun i (u : mj_V × mj_V × mj_V) => mj_run yM_hasTimes w (rq f n v A) 11 [.inr (.inl 223), .inl b, .inl (i : Int), u.1, u.2.1, u.2.2, .inr (.inr (.inr 0))] []) (fun i j (u : mj_V × mj_V) => mj_run yM_hasTimes w (rq f n v A) 21 [.inr (.inl 223), .inl b, .inl (i : Int), .inl (j : Int), u.1, u.2, .inr (.inr (.inr 0))] []) (some (w, rq f n v A, some (.inl 0))) (htB (f 253) b A) n (fun i u hi => ⟨(u.2.1, u.2.2), by
        rw [l_M_hasTimes_11 hw, rq_n, if_neg (by omega)]; rfl⟩) (fun i j u hi hj hg => by
        have hg' : A i j < 1000000 ∧ (b * (A i j / 2) < f 253 i - f 253 j ∨ b * (A i j / 2) = f 253 i - f 253 j ∧ A i j % 2 = 0) := of_decide_eq_true hg
        rw [l_M_hasTimes_21 hw, rq_n, if_neg (by omega), R_get hw f n v A (by omega) (by omega), mj_bi_some, if_pos hg'.1, mj_gd_pos ⟨by omega, by omega⟩, mj_gd_pos ⟨by omega, by omega⟩, M_numberOf hw, mj_bi_some, Int.toNat_natCast, Int.toNat_natCast, rq_o (by decide) (by decide), rq_o (by decide) (by decide), key i j hi hj hg'.1, and_1]
        have c0 := cmp_0 (f 253 i - f 253 j - b * (A i j / 2))
        rcases hg'.2 with h | h
        · rw [if_pos (c0.1.2 (by omega))]
        · rw [if_neg (fun q => by have := c0.1.1 q; omega), if_neg (fun q => q (c0.2.2 (by omega))), if_neg (fun q => q h.2)]) (fun i j u hi hj hg => by
        have hg' : ¬ (A i j < 1000000 ∧ (b * (A i j / 2) < f 253 i - f 253 j ∨ b * (A i j / 2) = f 253 i - f 253 j ∧ A i j % 2 = 0)) := of_decide_eq_false hg
        rw [l_M_hasTimes_21 hw, rq_n, if_neg (by omega), R_get hw f n v A (by omega) (by omega), mj_bi_some]
        by_cases h1 : A i j < 1000000
        · rw [if_pos h1, mj_gd_pos ⟨by omega, by omega⟩, mj_gd_pos ⟨by omega, by omega⟩, M_numberOf hw, mj_bi_some, Int.toNat_natCast, Int.toNat_natCast, rq_o (by decide) (by decide), rq_o (by decide) (by decide), key i j hi hj h1, and_1]
          have c0 := cmp_0 (f 253 i - f 253 j - b * (A i j / 2))
          rw [if_neg (fun q => by have := c0.1.1 q; exact hg' ⟨h1, Or.inl (by omega)⟩)]
          by_cases h2 : mj_cmp (f 253 i - f 253 j - b * (A i j / 2)) 0 = 0
          · rw [if_neg (fun q => q h2)]
            have h3 := c0.2.1 h2
            rw [if_pos (fun q => hg' ⟨h1, Or.inr ⟨by omega, q⟩⟩), wS (by omega)]
            exact ⟨(_, _), rfl⟩
          · rw [if_pos h2, wS (by omega)]
            exact ⟨(_, _), rfl⟩
        · rw [if_neg h1, wS (by omega)]
          exact ⟨(_, _), rfl⟩) (fun i u hi => ⟨(.inl (n : Int), u.1, u.2), by
        rw [l_M_hasTimes_21 hw, rq_n, if_pos (by omega), wS (by omega)]⟩) (.inr (.inr (.inr 0)), .inr (.inr (.inr 0)), .inr (.inr (.inr 0))) with ⟨a, b⟩ | ⟨a, u, b⟩
    · rw [if_neg (by rw [a]; exact fun q => absurd q.2 (by decide))]
      exact b
    · rw [if_pos ⟨hv, a⟩]
      refine b.trans ?_
      rw [l_M_hasTimes_11 hw, rq_n, if_pos (by omega)]
  · rw [if_neg hv, if_neg (fun h => hv h.1)]
theorem ok_within (hw : wk sw w) {f : mj_F} (r : RR sw f) (x1 x2 : Int) : Ok sw w f yX_within yM_within [.inl x1, .inl x2] := by
  obtain ⟨c, np, ne, st, N, L, nx, d, tp, ed, r⟩ := r
  obtain ⟨⟨hc4, hn8, he16, _, _⟩, ⟨_, xc, mc, xp, mp, xe, me, xs, ms⟩, hL, hE, h0, hg⟩ := r.1
  have xn := r.2.2.1.2.1
  have mn := r.2.2.1.2.2.1
  have hN := r.2.2.1.1
  have mc' : mj_u f 223 0 0 223 2 = (c : Int) := mc
  have mp' : mj_u f 223 0 0 223 3 = (np : Int) := mp
  have me' : mj_u f 223 0 0 223 4 = (ne : Int) := me
  have mn' : mj_u f 223 0 0 223 23 = (N : Int) := mn
  by_cases hV : (0 ≤ x1 ∧ x1 < 4) ∧ (0 ≤ x2 ∧ x2 < 4)
  · obtain ⟨t, rfl⟩ : ∃ t : Nat, x1 = (t : Int) := ⟨x1.toNat, by omega⟩
    obtain ⟨s, rfl⟩ : ∃ s : Nat, x2 = (s : Int) := ⟨x2.toNat, by omega⟩
    have ht : t < 4 := by omega
    have hs : s < 4 := by omega
    have bt := (r.2.1 t ht).2
    have bs := (r.2.1 s hs).2
    have ft : f (215 + 2 * t) 2 = f 234 (100 + t) := (TS_01 bt).2.2
    have fs : f (215 + 2 * s) 2 = f 234 (100 + s) := (TS_01 bs).2.2
    have vt : f (215 + 2 * t) 2 = 0 ∨ f (215 + 2 * t) 2 = 1 := (TS_01 bt).1
    have vs : f (215 + 2 * s) 2 = 0 ∨ f (215 + 2 * s) 2 = 1 := (TS_01 bs).1
    obtain ⟨v, hv⟩ : ∃ v : Int, v = if f (215 + 2 * t) 2 = 0 ∧ f (215 + 2 * s) 2 = 0 then (if cov (c + 1) (gm (216 + 2 * t) 6 f) (gm (216 + 2 * s) 6 f) = true then 0 else 1) else f (215 + 2 * s) 2 := ⟨_, rfl⟩
    have v01 : v = 0 ∨ v = 1 := by
      rw [hv]
      split
      · split
        · exact Or.inl rfl
        · exact Or.inr rfl
      · exact vs
    have eX : mj_call yX_within w f [.inr (.inl 2), .inl (t : Int), .inl (s : Int)] = some (w, f, some (.inl v)) := by
      simp only [c_X_within hw, X_isTable hw, mj_bi_some, i01]
      rw [if_neg (by omega), if_pos (by omega), mj_gd_pos ⟨by omega, by omega⟩, mj_gd_pos ⟨by omega, by omega⟩, Int.toNat_natCast, Int.toNat_natCast, Z_covers hw (zn215 ht) (zn215 hs) f (by omega) (r.2.1 t ht).1 vs, mj_bi_some, show 215 + 2 * t + 1 = 216 + 2 * t by omega, show 215 + 2 * s + 1 = 216 + 2 * s by omega, ← hv]
      rcases v01 with h | h
      · rw [h, if_pos rfl]
      · rw [h, if_neg (by decide)]
    have hF3 : ∃ F3, mj_call yM_within w f [.inr (.inl 223), .inl (t : Int), .inl (s : Int)] = some (w, F3, some (.inl v)) ∧ Cor sw f F3 := by
      simp only [c_M_within hw, M_isTable hw, mj_bi_some, i01]
      rw [if_neg (by omega), if_pos (by omega), w100 hs, mj_gd_pos ⟨by omega, by omega⟩, Int.toNat_natCast, u_o (Or.inl (by decide)), ← fs]
      by_cases h1 : f (215 + 2 * s) 2 = 0
      · obtain ⟨r', l1, l2⟩ := loadT hw r.2.1 (LD_0 r) hs
        rw [if_pos (by omega), l1, mj_bu_some, w100 ht, mj_gd_pos ⟨by omega, by omega⟩, Int.toNat_natCast, rq_o (by decide) (by decide), u_o (Or.inl (by decide)), ← ft]
        refine ⟨rq (mj_u f 223 0 0) ((c + 1 : Nat) : Int) r'.1 r'.2, ?_, Cor_t Cor_0 Cor_rq⟩
        by_cases h2 : f (215 + 2 * t) 2 = 0
        · have hv' : v = if cov (c + 1) (gm (216 + 2 * t) 6 f) (gm (216 + 2 * s) 6 f) = true then 0 else 1 := by rw [hv, if_pos ⟨h2, h1⟩]
          rw [if_neg (fun q => q h2), w25 (by omega), R_isInside hw _ (k_234 hw) (by decide) (by omega) (by omega) (by decide), mj_bi_some]
          have l3 := TS_00 l2 h1
          have l4 := TS_00 bt h2
          have ec : any (c + 1) (fun i => any (c + 1) (insB (mj_u f 223 0 0) 234 (25 * t) r'.2 i)) = cov (c + 1) (gm (216 + 2 * t) 6 f) (gm (216 + 2 * s) 6 f) := by
            unfold cov
            refine any_congr (fun i hi => any_congr (fun j hj => ?_))
            unfold insB
            rw [u_o (Or.inl (by decide))]
            have a1 := TS_cell l3 hi hj
            have a2 : (gm (216 + 2 * t) 6 f i j = 268435456 ∧ f 234 (25 * t + 5 * i + j) = 1000000) ∨ (gm (216 + 2 * t) 6 f i j = f 234 (25 * t + 5 * i + j) ∧ -802 < gm (216 + 2 * t) 6 f i j ∧ gm (216 + 2 * t) 6 f i j < 802 ∧ f 234 (25 * t + 5 * i + j) < 1000000 ∧ gm (216 + 2 * t) 6 f i j < 268435456) := TS_cell l4 hi hj
            exact decide_eq_decide.mpr (by omega)
          rw [ec, hv']
          by_cases h3 : cov (c + 1) (gm (216 + 2 * t) 6 f) (gm (216 + 2 * s) 6 f) = true
          · rw [if_pos h3, if_pos rfl]
          · rw [if_neg h3, if_neg (by decide)]
        · rw [if_pos h2, hv, if_neg (fun q => h2 q.1), h1]
      · rw [if_neg (by omega)]
        refine ⟨_, ?_, Cor_0⟩
        rw [hv, if_neg (fun q => h1 q.2)]
        rcases vs with h | h
        · exact absurd h h1
        · rw [h]
    obtain ⟨F3, m1, m2⟩ := hF3
    exact Ok_i ⟨c, np, ne, st, N, L, nx, d, tp, ed, r⟩ eX (Cor_r _ _) m1 m2
  · refine Ok_i ⟨c, np, ne, st, N, L, nx, d, tp, ed, r⟩ (F1 := f) (F3 := mj_u f 223 0 0) (v := -1) ?_ (Cor_r _ _) ?_ Cor_0
    · simp only [c_X_within hw, X_isTable hw, mj_bi_some, i01]
      repeat' split
      all_goals first | rfl | (exfalso; omega)
    · simp only [c_M_within hw, M_isTable hw, mj_bi_some, i01]
      repeat' split
      all_goals first | rfl | (exfalso; omega)
end QU
