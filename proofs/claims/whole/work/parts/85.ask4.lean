/-! has, longest, soonest. -/
def h5 (f : mj_F) (a : Nat) (x2 x3 x4 x5 : Int) : mj_F := mj_u (mj_u (mj_u (mj_u (mj_u f a 0 0) a 1 x2) a 2 x3) a 3 x4) a 4 x5
def p5 (x2 x3 x4 x5 : Int) (i : Nat) : Int := if i = 4 then x5 else if i = 3 then x4 else if i = 2 then x3 else if i = 1 then x2 else 0
theorem h5_at {f : mj_F} {a : Nat} {x2 x3 x4 x5 : Int} {i : Nat} (hi : i < 5) : h5 f a x2 x3 x4 x5 a i = p5 x2 x3 x4 x5 i := by
  unfold h5 p5 mj_u
  by_cases h4 : i = 4
  · rw [if_pos ⟨rfl, h4⟩, if_pos h4]
  · rw [if_neg (fun q => h4 q.2), if_neg h4]
    by_cases h3 : i = 3
    · rw [if_pos ⟨rfl, h3⟩, if_pos h3]
    · rw [if_neg (fun q => h3 q.2), if_neg h3]
      by_cases h2 : i = 2
      · rw [if_pos ⟨rfl, h2⟩, if_pos h2]
      · rw [if_neg (fun q => h2 q.2), if_neg h2]
        by_cases h1 : i = 1
        · rw [if_pos ⟨rfl, h1⟩, if_pos h1]
        · rw [if_neg (fun q => h1 q.2), if_neg h1, if_pos ⟨rfl, by omega⟩]
theorem h5_o {f : mj_F} {a b q : Nat} {x2 x3 x4 x5 : Int} (h : b ≠ a) : h5 f a x2 x3 x4 x5 b q = f b q := by
  unfold h5
  rw [u_o (Or.inl h), u_o (Or.inl h), u_o (Or.inl h), u_o (Or.inl h), u_o (Or.inl h)]
theorem p5_rng {x2 x3 x4 x5 : Int} (h2 : 0 ≤ x2 ∧ x2 < 2147483648) (h3 : 0 ≤ x3 ∧ x3 < 2147483648) (h4 : 0 ≤ x4 ∧ x4 < 2147483648) (h5 : 0 ≤ x5 ∧ x5 < 2147483648) (i : Nat) : 0 ≤ p5 x2 x3 x4 x5 i ∧ p5 x2 x3 x4 x5 i < 2147483648 := by
  unfold p5
  repeat' split
  all_goals omega
theorem hh_ht {n : Nat} {M : Int} {C A : Mt} (h : TS n M (0, C) (0, A)) (hn : n ≤ 5) {F G : mj_F} {t : Nat → Int} (hF : ∀ i, i < 5 → F 36 i = t i) (hG : ∀ i, i < 5 → G 253 i = t i) (ht : ∀ i, 0 ≤ t i ∧ t i < 2147483648) : hhM F 36 n C = any n (fun i => any n (htB (G 253) 2 A i)) := by
  unfold hhM
  refine any_congr (fun i hi => any_congr (fun j hj => ?_))
  have a := TS_cell h hi hj
  have ti := ht i
  have tj := ht j
  have e : mj_w (t i - t j) = t i - t j := w_id (by omega)
  unfold hhB htB
  rw [hF i (by omega), hF j (by omega), hG i (by omega), hG j (by omega), e, Bool.eq_iff_iff, Bool.and_eq_true, decide_eq_true_eq, decide_eq_true_eq, decide_eq_true_eq]
  omega
theorem wL1 {n : Nat} (h : n < 1000) : mj_w (((n + 1 : Nat) : Int) - 1) = (n : Int) := by unfold mj_w; omega
theorem bmb6 {n : Nat} (h : n ≤ 6) : bm 802 n ≤ 6000 ∧ 802 ≤ bm 802 n ∧ bm (bm 802 n) n ≤ 40000 ∧ bm 802 n ≤ bm (bm 802 n) n ∧ bm (bm (bm 802 n) n) n ≤ 300000 := by
  have h1 := bm6 (M := 802) (by decide) h
  have h2 := bm_big (M := 802) (by decide) n
  have h3 := bm6 (M := bm 802 n) (by omega) h
  have h4 := bm_big (M := bm 802 n) (by omega) n
  have h5 := bm6 (M := bm (bm 802 n) n) (by omega) h
  omega
theorem sL_okr6 {f : mj_F} {p n l : Nat} (hn : n ≤ 5) (s : sL f p n l) : okr f p l ∧ mkr f l := sL_okr hn s
theorem zkl_c {f g : mj_F} {p n l : Nat} {q : Int × Mt} (h : ∀ k, k ≤ 12 → g (p + k) = f (p + k)) : zkl g p n l q = zkl f p n l q := by unfold zkl; rw [h 4 (by omega), zkr_c h]
section QU
variable {sw : Bool} {w : mj_W}
theorem ok_has (hw : wk sw w) {f : mj_F} (r : RR sw f) (x1 x2 x3 x4 x5 : Int) (b2 : x2 < 2147483648) (b3 : x3 < 2147483648) (b4 : x4 < 2147483648) (b5 : x5 < 2147483648) : Ok sw w f yX_has yM_has [.inl x1, .inl x2, .inl x3, .inl x4, .inl x5] := by
  obtain ⟨c, np, ne, st, N, L, nx, d, tp, ed, r⟩ := r
  have hc4 := r.1.1.1
  by_cases hV : (0 ≤ x1 ∧ x1 < 4) ∧ 0 ≤ x2 ∧ 0 ≤ x3 ∧ 0 ≤ x4 ∧ 0 ≤ x5
  · obtain ⟨t, rfl⟩ : ∃ t : Nat, x1 = (t : Int) := ⟨x1.toNat, by omega⟩
    have ht : t < 4 := by omega
    have prg := p5_rng (x2 := x2) (x3 := x3) (x4 := x4) (x5 := x5) (by omega) (by omega) (by omega) (by omega)
    have c1 : Cor sw f (h5 f 36 x2 x3 x4 x5) := Cor_a (fun a q h => h5_o (by omega))
    have c2 : Cor sw (h5 f 36 x2 x3 x4 x5) (h5 (mj_u (h5 f 36 x2 x3 x4 x5) 223 0 0) 253 x2 x3 x4 x5) := Cor_t Cor_0 (Cor_a (fun a q h => h5_o (by omega)))
    have c3 := Cor_t c1 c2
    generalize hF : h5 f 36 x2 x3 x4 x5 = F at c1 c2 c3
    generalize hG : h5 (mj_u F 223 0 0) 253 x2 x3 x4 x5 = G at c2 c3
    obtain ⟨r', l1, l2⟩ := loadT2 hw r.2.1 (RX_c c3 r).1 (c3.1 234 (cA_m (by omega))) ht
    have zF : ∀ q, F (215 + 2 * t) q = f (215 + 2 * t) q := fun q => by rw [c1.1 _ (cA_z (by omega))]
    have gF : gm (216 + 2 * t) 6 F = gm (216 + 2 * t) 6 f := gm_c (c1.1 _ (cA_z (by omega)))
    obtain ⟨v, hv⟩ : ∃ v : Int, v = if f (215 + 2 * t) 2 = 0 ∧ hhM F 36 (c + 1) (gm (216 + 2 * t) 6 f) = false then 1 else 0 := ⟨_, rfl⟩
    have v01 : v = 0 ∨ v = 1 := by rw [hv]; exact i01g
    refine Ok_i ⟨c, np, ne, st, N, L, nx, d, tp, ed, r⟩ (F1 := F) (F3 := rq G ((c + 1 : Nat) : Int) r'.1 r'.2) (v := v) ?_ c1 ?_ (Cor_t c2 Cor_rq)
    · rw [c_X_has hw, X_isTable hw, mj_bi_some]
      simp only [i01]
      rw [if_neg (by omega), if_neg (by omega), if_neg (by omega), if_neg (by omega), if_pos (by omega), mj_gd_pos ⟨by omega, by omega⟩, Int.toNat_natCast]
      show mj_bi (mj_call yZ_holdsHalves w (h5 f 36 x2 x3 x4 x5) [.inr (.inl (215 + 2 * t)), .inr (.inl 36)]) _ = _
      rw [hF, Z_holdsHalves hw (zn215 ht) F (k_36 hw) (by omega) ((zF 1).trans (r.2.1 t ht).1) (by omega), mj_bi_some, zF, show 215 + 2 * t + 1 = 216 + 2 * t by omega, gF, ← hv]
      rcases v01 with h | h
      · rw [h, if_pos rfl]
      · rw [h, if_neg (by decide)]
    · rw [c_M_has hw, M_isTable hw, mj_bi_some]
      simp only [i01]
      rw [if_neg (by omega), if_neg (by omega), if_neg (by omega), if_neg (by omega), if_pos (by omega)]
      show mj_bu (mj_call yM_loads w (h5 (mj_u F 223 0 0) 253 x2 x3 x4 x5) [.inr (.inl 223), .inl (t : Int)]) _ = _
      have hr := (TS_01 l2).2.2
      have tG : ∀ i, i < 5 → G 253 i = p5 x2 x3 x4 x5 i := fun i hi => by rw [← hG]; exact h5_at hi
      have hNI : r'.1 = 0 → NI (c + 1) r'.2 := fun h0 => by
        rcases l2 with ⟨_, b⟩ | ⟨_, _, _, _, _, _, _, b⟩
        · rw [h0] at b; exact absurd b (by decide)
        · exact b
      rw [hG, l1, mj_bu_some, R_hasTimes hw G (by omega) _ _ (Or.inr rfl) hNI (fun i hi => by rw [tG i (by omega)]; exact prg i), mj_bi_some, ← hr]
      have ev : (if f (215 + 2 * t) 2 = 0 ∧ any (c + 1) (fun i => any (c + 1) (htB (G 253) 2 r'.2 i)) = false then (1 : Int) else 0) = v := by
        rw [hv]
        by_cases h : f (215 + 2 * t) 2 = 0
        · rw [hh_ht (TS_00 l2 h) (by omega) (t := p5 x2 x3 x4 x5) (fun i hi => by rw [← hF]; exact h5_at hi) tG prg]
        · rw [if_neg (fun q => h q.1), if_neg (fun q => h q.1)]
      rw [show (f (215 + 2 * t) 2, gm (216 + 2 * t) 6 f).1 = f (215 + 2 * t) 2 from rfl, ev]
      rcases v01 with h | h
      · rw [h, if_pos rfl]
      · rw [h, if_neg (by decide)]
  · refine Ok_i ⟨c, np, ne, st, N, L, nx, d, tp, ed, r⟩ (F1 := f) (F3 := mj_u f 223 0 0) (v := -1) ?_ (Cor_r _ _) ?_ Cor_0
    · simp only [c_X_has hw, X_isTable hw, mj_bi_some, i01]
      repeat' split
      all_goals first | rfl | (exfalso; omega)
    · simp only [c_M_has hw, M_isTable hw, mj_bi_some, i01]
      repeat' split
      all_goals first | rfl | (exfalso; omega)
theorem ok_longest (hw : wk sw w) {f : mj_F} (r : RR sw f) (x1 x2 x3 : Int) : Ok sw w f yX_longest yM_longest [.inl x1, .inl x2, .inl x3] := by
  obtain ⟨c, np, ne, st, N, L, nx, d, tp, ed, r⟩ := r
  obtain ⟨⟨hc4, hn8, he16, _, _⟩, ⟨_, xc, mc, xp, mp, xe, me, xs, ms⟩, hL, hE, h0, hg⟩ := r.1
  have xn := r.2.2.1.2.1
  have mn := r.2.2.1.2.2.1
  have hN := r.2.2.1.1
  have mc' : mj_u f 223 0 0 223 2 = (c : Int) := mc
  have mp' : mj_u f 223 0 0 223 3 = (np : Int) := mp
  have me' : mj_u f 223 0 0 223 4 = (ne : Int) := me
  have mn' : mj_u f 223 0 0 223 23 = (N : Int) := mn
  by_cases hV : (0 ≤ x1 ∧ x1 < 4) ∧ (0 ≤ x2 ∧ x2 < (np : Int)) ∧ (0 ≤ x3 ∧ x3 < 2)
  · obtain ⟨t, rfl⟩ : ∃ t : Nat, x1 = (t : Int) := ⟨x1.toNat, by omega⟩
    obtain ⟨l, rfl⟩ : ∃ l : Nat, x2 = (l : Int) := ⟨x2.toNat, by omega⟩
    have ht : t < 4 := by omega
    have hbt := (r.2.1 t ht).2
    have hb6 := bmb6 (n := c + 1 + 1) (by omega)
    have hl := hL l (by omega)
    have hl6 := sL_mono (show c + 1 ≤ c + 1 + 1 by omega) hl
    obtain ⟨q, hq⟩ : ∃ q : Int × Mt, q = zwt f (pl sw) (c + 1 + 1) l (f (215 + 2 * t) 2, ztm (c + 1) (gm (216 + 2 * t) 6 f)) := ⟨_, rfl⟩
    have cF : Cor sw f (zs 34 f ((c + 1 + 1 : Nat) : Int) q.1 q.2) := Cor_zs (Or.inr (Or.inl rfl))
    generalize hF : zs 34 f ((c + 1 + 1 : Nat) : Int) q.1 q.2 = F at cF
    have RG := RX_c (Cor_t cF Cor_0) r
    have hG : Cor sw f (mj_u F 223 0 0) := Cor_t cF Cor_0
    obtain ⟨G, eG⟩ : ∃ G, G = mj_u F 223 0 0 := ⟨_, rfl⟩
    rw [← eG] at RG hG
    obtain ⟨r', l1, l2⟩ := loadT2 hw r.2.1 RG.1 (hG.1 234 (cA_m (by omega))) ht
    have gl := RG.1.2.2.1 l (by omega)
    have T1 := TS_timed (by omega) gl (by decide) (by omega) l2
    have T2 := TS_keep (sL_mono (show c + 1 ≤ c + 1 + 1 by omega) gl) (by omega) (by omega) (TS_up T1)
    have gp : ∀ k, k ≤ 12 → G (pl sw + k) = f (pl sw + k) := fun k hk => hG.1 _ (cA_pl hk)
    have T3 : TS (c + 1 + 1) (bm (bm 802 (c + 1 + 1)) (c + 1 + 1)) q (rwc G (c + 1 + 1) l ((rwc G (c + 1) l r').1, rup (c + 1 + 1) (um (stF (c + 1) (c + 1) (rwc G (c + 1) l r').2) (c + 1) (c + 1) 1))) := by
      rw [hq]
      unfold zwt
      rw [zkl_c gp, zkl_c gp] at T2
      exact T2
    obtain ⟨r2, hr2⟩ : ∃ r2 : Int × Mt, r2 = rwc G (c + 1 + 1) l ((rwc G (c + 1) l r').1, rup (c + 1 + 1) (um (stF (c + 1) (c + 1) (rwc G (c + 1) l r').2) (c + 1) (c + 1) 1)) := ⟨_, rfl⟩
    rw [← hr2] at T3
    have hrv := (TS_01 T3).2.2
    obtain ⟨v, hv⟩ : ∃ v : Int, v = if q.1 = 0 then tel (q.2 (c + 1) 0) x3 else -1000 := ⟨_, rfl⟩
    have ef : mj_call yM_longest w F [.inr (.inl 223), .inl (t : Int), .inl (l : Int), .inl x3] = some (w, rq G ((c + 1 + 1 : Nat) : Int) r2.1 r2.2, some (.inl v)) := by
      have mcG := RG.1.2.1.2.2.1
      have mpG := RG.1.2.1.2.2.2.2.1
      have hmk := sL_okr (by omega) gl
      have f01 := rwc_01 G (c + 1) l r' (TS_01 l2).2.1
      rw [c_M_longest hw]
      rw [← eG]
      simp only [M_isTable hw, M_isPlace hw G mpG (by omega), M_isTwo hw, mj_bi_some, i01]
      rw [if_neg (by omega), if_neg (by omega), if_pos (by omega), l1, mj_bu_some, R_when hw G (by omega) (by omega) hmk.2 r' (TS_01 l2).2.1, mj_bu_some, R_stretches hw G (by omega), mj_bu_some, R_ups hw G (by omega) (by omega), mj_bu_some, R_when hw G (by omega) (by omega) hmk.2 ((rwc G (c + 1) l r').1, rup (c + 1 + 1) (um (stF (c + 1) (c + 1) (rwc G (c + 1) l r').2) (c + 1) (c + 1) 1)) f01, mj_bu_some, ← hr2, rq_v, rq_n, ← hrv, hv, wL1 (by omega)]
      by_cases h : q.1 = 0
      · have e0 : mj_call yM_get w (rq G ((c + 1 + 1 : Nat) : Int) r2.1 r2.2) [.inr (.inl 223), .inl ((c + 1 : Nat) : Int), .inl 0] = some (w, rq G ((c + 1 + 1 : Nat) : Int) r2.1 r2.2, some (.inl (r2.2 (c + 1) 0))) := R_get hw G _ _ _ (i := c + 1) (j := 0) (by omega) (by omega)
        rw [if_pos h, if_pos h, hrv, e0, mj_bi_some, M_tld hw, mj_bi_some, TS_tel (TS_00 (C := q.2) T3 h) (by omega) (by omega)]
      · rw [if_neg h, if_neg h, hrv]
    refine Ok_i ⟨c, np, ne, st, N, L, nx, d, tp, ed, r⟩ (F1 := F) (v := v) ?_ cF ef (Cor_t (eG ▸ Cor_0) Cor_rq)
    simp only [c_X_longest hw, X_isTable hw, X_isPlace hw f xp, mj_bi_some, i01]
    rw [if_neg (by omega), if_neg (by omega), if_neg (by omega), if_pos (by omega), mj_gd_pos ⟨by omega, by omega⟩, Int.toNat_natCast, Z_becomeTimed hw zn34 (zn215 ht) (by omega) f (TS_01 hbt).1 (r.2.1 t ht).1 (by omega) (by omega), mj_bu_some, show 215 + 2 * t + 1 = 216 + 2 * t by omega, Z_waitIn hw zn34 (pl_pn sw) f (by omega) (by omega) (by omega) (sL_okr (by omega) hl).1 (f (215 + 2 * t) 2, ztm (c + 1) (gm (216 + 2 * t) 6 f)), mj_bu_some, ← hq, zs_v, zs_n, wL1 (by omega), hv]
    by_cases h : q.1 = 0
    · have e0 : mj_call yZ_cell w (zs 34 f ((c + 1 + 1 : Nat) : Int) q.1 q.2) [.inr (.inl 34), .inl ((c + 1 : Nat) : Int), .inl 0] = some (w, zs 34 f ((c + 1 + 1 : Nat) : Int) q.1 q.2, some (.inl (q.2 (c + 1) 0))) := Z_cell hw zn34 f _ _ _ (i := c + 1) (j := 0) (by omega) (by omega)
      rw [if_pos h, if_pos h, e0, mj_bi_some, X_tellBound hw, mj_bi_some, hF]
    · rw [if_neg h, if_neg h, hF]
  · refine Ok_i ⟨c, np, ne, st, N, L, nx, d, tp, ed, r⟩ (F1 := f) (F3 := mj_u f 223 0 0) (v := -2000) ?_ (Cor_r _ _) ?_ Cor_0
    · simp only [c_X_longest hw, X_isTable hw, X_isPlace hw f xp, mj_bi_some, i01]
      repeat' split
      all_goals first | rfl | (exfalso; omega)
    · simp only [c_M_longest hw, M_isTable hw, M_isPlace hw _ mp' (by omega), M_isTwo hw, mj_bi_some, i01]
      repeat' split
      all_goals first | rfl | (exfalso; omega)
end QU
