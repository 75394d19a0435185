/-! soonest, first. -/
theorem TS_z0 {n : Nat} {M : Int} {C A : Mt} (h : TS n M (0, C) (0, A)) {j : Nat} (hj : j < n) : C 0 j = A 0 j ∧ C 0 j ≤ 1 ∧ -M < C 0 j := by
  have a := TS_cell h (show 0 < n by omega) hj
  rcases h with ⟨b, _⟩ | ⟨_, _, _, z, _, _, _, _⟩
  · exact absurd (show (0 : Int) = 1 from b) (by decide)
  · have z1 : ble (cv (C 0 j)) (some 1) := z j hj
    rcases a with ⟨a1, _⟩ | ⟨a1, a2, a3, _, a5⟩
    · rw [cv_n (by omega)] at z1
      exact absurd z1 ble_ns
    · rw [cv_s a5] at z1
      exact ⟨a1, z1, a2⟩
/-- whole times, not yet closed -/
theorem wh_CS {n : Nat} {M : Int} (hM : 2 ≤ M) (hb : bm (M + 1) n ≤ 1000000) {C A C' : Mt} (h : TS n M (0, C) (0, A)) (eC : ∀ i j, i < n → j < n → C' i j = whB (C i j)) : CS n (cT C') (zcl n 0 C') ∧ Od n (cT C') ∧ Zr n (cT C') ∧ Bb n (M + 1) (cT C') ∧ (∀ i, i < n → ble (cT C' i i) (some 1)) ∧ ∀ i j, i < n → j < n → cT C' i j = wb (rT A i j) := by
  rcases h with ⟨a, _⟩ | ⟨_, _, c1, c2, c3, c4, c5, c6⟩
  · exact absurd (show (0 : Int) = 1 from a) (by decide)
  have hMb := bm_big (by omega : 0 ≤ M + 1) n
  have c1 : Cl n (cT C) := c1
  have c2 : Zr n (cT C) := c2
  have c3 : Bb n M (cT C) := c3
  have c4 : Eqn n (cT C) (rT A) := c4
  have c5 : NC n C := c5
  have e1 : ∀ i j, i < n → j < n → cT C' i j = wb (cT C i j) := fun i j hi hj => by
    show cv (C' i j) = _
    rw [eC i j hi hj]
    exact cv_whB (by have := c5 i j hi hj; omega)
  have wle : ∀ b : Bd, ble (wb b) b := by
    intro b
    cases b with
    | none => exact trivial
    | some x => show (if x % 2 = 1 then x else x - 1) ≤ x; split <;> omega
  have hB : Bb n (M + 1) (cT C') := fun i j x hi hj hx => by
    rw [e1 i j hi hj] at hx
    cases hy : cT C i j with
    | none => rw [hy] at hx; cases hx
    | some y =>
      rw [hy] at hx
      have hx := Option.some.inj (show some (if y % 2 = 1 then y else y - 1) = some x from hx)
      have := c3 i j y hi hj hy
      split at hx <;> omega
  have hd : ∀ i, i < n → C' i i ≤ 1 := fun i hi => by rw [eC i i hi hi, diag_cT c1 i hi]; decide
  have hNC : NC n C' := Bb_NC (by omega) hB (fun i j hi hj => by
    have := c5 i j hi hj
    rw [eC i j hi hj, whB_v (by omega)]
    split
    · omega
    · split <;> omega)
  refine ⟨zcl_CS (by omega) (by omega) hB hNC hd, fun i j x hi hj hx => ?_, fun j hj => ?_, hB, fun i hi => ?_, fun i j hi hj => by rw [e1 i j hi hj, c4 i j hi hj]⟩
  · rw [e1 i j hi hj] at hx
    cases hy : cT C i j with
    | none => rw [hy] at hx; cases hx
    | some y =>
      rw [hy] at hx
      have hx := Option.some.inj (show some (if y % 2 = 1 then y else y - 1) = some x from hx)
      split at hx <;> omega
  · rw [e1 0 j (by omega) hj]; exact ble_t (wle _) (c2 j hj)
  · rw [e1 i i hi hi]; exact ble_t (wle _) (Cl_diag c1 i hi)
/-- the reference's hundred -/
def hnd (n m : Nat) (A : Mt) : Mt := fun i j => if j = 0 ∧ 1 ≤ i ∧ i < m then (if 201 < A i j then 201 else A i j) else A i j
theorem hnd_S {m n : Nat} (hm : 1 ≤ m) {A : Mt} : tg (hnd n m A) m 0 201 = hnd n (m + 1) A := by
  have e : hnd n m A m 0 = A m 0 := by unfold hnd; rw [if_neg (by omega)]
  funext i j
  unfold tg
  rw [e]
  by_cases h : 201 < A m 0
  · rw [if_pos h]
    unfold um hnd
    by_cases h1 : i = m ∧ j = 0
    · rw [if_pos h1, if_pos ⟨h1.2, by omega, by omega⟩, h1.1, h1.2, if_pos h]
    · rw [if_neg h1]
      by_cases h2 : j = 0 ∧ 1 ≤ i ∧ i < m
      · rw [if_pos h2, if_pos (show j = 0 ∧ 1 ≤ i ∧ i < m + 1 from ⟨h2.1, h2.2.1, by omega⟩)]
      · rw [if_neg h2, if_neg (by omega)]
  · rw [if_neg h]
    unfold hnd
    by_cases h2 : j = 0 ∧ 1 ≤ i ∧ i < m
    · rw [if_pos h2, if_pos (show j = 0 ∧ 1 ≤ i ∧ i < m + 1 from ⟨h2.1, h2.2.1, by omega⟩)]
    · rw [if_neg h2]
      by_cases h3 : j = 0 ∧ 1 ≤ i ∧ i < m + 1
      · have : i = m := by omega
        rw [if_pos h3, this, h3.1, if_neg h]
      · rw [if_neg h3]
theorem wb_201 (b : Bd) : wb (bmn b (some 201)) = bmn (wb b) (some 201) := by
  cases b with
  | none => rfl
  | some x =>
    by_cases h : x ≤ 201
    · rw [bmn_eql (show ble (some x) (some 201) from h), bmn_eql (show ble (wb (some x)) (some 201) by show (if x % 2 = 1 then x else x - 1) ≤ 201; split <;> omega)]
    · rw [bmn_eqr (show ble (some 201) (some x) by show (201 : Int) ≤ x; omega), bmn_eqr (show ble (some 201) (wb (some x)) by show (201 : Int) ≤ (if x % 2 = 1 then x else x - 1); split <;> omega)]
      rfl
section QU
variable {sw : Bool} {w : mj_W}
theorem ok_soonest (hw : wk sw w) {f : mj_F} (r : RR sw f) (x1 x2 x3 : Int) : Ok sw w f yX_soonest yM_soonest [.inl x1, .inl x2, .inl x3] := by
  obtain ⟨c, np, ne, st, N, L, nx, d, tp, ed, r⟩ := r
  obtain ⟨⟨hc4, hn8, he16, _, _⟩, ⟨_, xc, mc, xp, mp, xe, me, xs, ms⟩, hL, hE, h0, hg⟩ := r.1
  have xn := r.2.2.1.2.1
  have mn := r.2.2.1.2.2.1
  have hN := r.2.2.1.1
  have mc' : mj_u f 223 0 0 223 2 = (c : Int) := mc
  have mp' : mj_u f 223 0 0 223 3 = (np : Int) := mp
  have me' : mj_u f 223 0 0 223 4 = (ne : Int) := me
  have mn' : mj_u f 223 0 0 223 23 = (N : Int) := mn
  by_cases hV : (0 ≤ x1 ∧ x1 < 4) ∧ (0 ≤ x2 ∧ x2 < (ne : Int)) ∧ (0 ≤ x3 ∧ x3 < 2)
  · obtain ⟨t, rfl⟩ : ∃ t : Nat, x1 = (t : Int) := ⟨x1.toNat, by omega⟩
    obtain ⟨e, rfl⟩ : ∃ e : Nat, x2 = (e : Int) := ⟨x2.toNat, by omega⟩
    have ht : t < 4 := by omega
    have hbt := (r.2.1 t ht).2
    have hb6 := bmb6 (n := c + 1 + 1) (by omega)
    obtain ⟨se, ss, l, k, hk, hk', tf, tf2, _, _⟩ := hE e (by omega)
    have hl := hL l (by omega)
    obtain ⟨q, hq⟩ : ∃ q : Int × Mt, q = zkl f (pl sw) (c + 1 + 1) (8 + e) (zwt f (pl sw) (c + 1 + 1) l (f (215 + 2 * t) 2, ztm (c + 1) (gm (216 + 2 * t) 6 f))) := ⟨_, rfl⟩
    have cF : Cor sw f (zs 34 f ((c + 1 + 1 : Nat) : Int) q.1 q.2) := Cor_zs (Or.inr (Or.inl rfl))
    generalize hF : zs 34 f ((c + 1 + 1 : Nat) : Int) q.1 q.2 = F at cF
    have RG := RX_c (Cor_t cF Cor_0) r
    have hG : Cor sw f (mj_u F 223 0 0) := Cor_t cF Cor_0
    obtain ⟨G, eG⟩ : ∃ G, G = mj_u F 223 0 0 := ⟨_, rfl⟩
    rw [← eG] at RG hG
    obtain ⟨r', l1, l2⟩ := loadT2 hw r.2.1 RG.1 (hG.1 234 (cA_m (by omega))) ht
    have gl := RG.1.2.2.1 l (by omega)
    have ge := (RG.1.2.2.2.1 e (by omega)).1
    have T1 := TS_timed (by omega) gl (by decide) (by omega) l2
    have T2 := TS_keep (sL_mono (show c + 1 ≤ c + 1 + 1 by omega) gl) (by omega) (by omega) (TS_up T1)
    have T2' := TS_keep (sL_mono (show c + 1 ≤ c + 1 + 1 by omega) ge) (by omega) (by omega) T2
    have gp : ∀ k, k ≤ 12 → G (pl sw + k) = f (pl sw + k) := fun k hk => hG.1 _ (cA_pl hk)
    obtain ⟨r2, hr2⟩ : ∃ r2 : Int × Mt, r2 = rwc G (c + 1 + 1) l ((rwc G (c + 1) l r').1, rup (c + 1 + 1) (um (stF (c + 1) (c + 1) (rwc G (c + 1) l r').2) (c + 1) (c + 1) 1)) := ⟨_, rfl⟩
    obtain ⟨r3, hr3⟩ : ∃ r3 : Int × Mt, r3 = rwc G (c + 1 + 1) (8 + e) r2 := ⟨_, rfl⟩
    have T3 : TS (c + 1 + 1) (bm (bm (bm 802 (c + 1 + 1)) (c + 1 + 1)) (c + 1 + 1)) q r3 := by
      rw [hr3, hr2, hq]
      unfold zwt
      rw [zkl_c gp, zkl_c gp, zkl_c gp] at T2'
      exact T2'
    have hrv := (TS_01 T3).2.2
    obtain ⟨v, hv⟩ : ∃ v : Int, v = if q.1 = 0 then (if x3 = 0 then mj_w (-(mj_shr (q.2 0 (c + 1)) 1)) else mj_and (q.2 0 (c + 1)) 1) else -1000 := ⟨_, rfl⟩
    have ef : mj_call yM_soonest w F [.inr (.inl 223), .inl (t : Int), .inl (e : Int), .inl x3] = some (w, rq G ((c + 1 + 1 : Nat) : Int) r3.1 r3.2, some (.inl v)) := by
      have mcG := RG.1.2.1.2.2.1
      have meG := RG.1.2.1.2.2.2.2.2.2.1
      have hmk := sL_okr (by omega) gl
      have hmk2 := sL_okr (by omega) ge
      have f01 := rwc_01 G (c + 1) l r' (TS_01 l2).2.1
      have f02 := rwc_01 G (c + 1 + 1) l ((rwc G (c + 1) l r').1, rup (c + 1 + 1) (um (stF (c + 1) (c + 1) (rwc G (c + 1) l r').2) (c + 1) (c + 1) 1)) f01
      rw [← hr2] at f02
      have g228 : ∀ n v A, rq G n v A 228 e = (l : Int) := fun n v A => by rw [rq_o (by decide) (by decide), hG.1 228 (cA_m (by omega))]; exact tf2
      rw [c_M_soonest hw]
      rw [← eG]
      simp only [M_isTable hw, M_isEdge hw G meG (by omega), M_isTwo hw, mj_bi_some, i01]
      rw [if_neg (by omega), if_neg (by omega), if_pos (by omega), l1, mj_bu_some, mj_gd_pos ⟨by omega, by omega⟩, Int.toNat_natCast, g228, R_when hw G (by omega) (by omega) hmk.2 r' (TS_01 l2).2.1, mj_bu_some, R_stretches hw G (by omega), mj_bu_some, R_ups hw G (by omega) (by omega), mj_bu_some, mj_gd_pos ⟨by omega, by omega⟩, g228, R_when hw G (by omega) (by omega) hmk.2 ((rwc G (c + 1) l r').1, rup (c + 1 + 1) (um (stF (c + 1) (c + 1) (rwc G (c + 1) l r').2) (c + 1) (c + 1) 1)) f01, mj_bu_some, ← hr2, w8 (by omega), R_when hw G (by omega) (by omega) hmk2.2 r2 f02, mj_bu_some, ← hr3, rq_v, rq_n, ← hrv, hv, wL1 (by omega)]
      by_cases h : q.1 = 0
      · have e0 : mj_call yM_get w (rq G ((c + 1 + 1 : Nat) : Int) r3.1 r3.2) [.inr (.inl 223), .inl 0, .inl ((c + 1 : Nat) : Int)] = some (w, rq G ((c + 1 + 1 : Nat) : Int) r3.1 r3.2, some (.inl (r3.2 0 (c + 1)))) := R_get hw G _ _ _ (i := 0) (j := c + 1) (by omega) (by omega)
        rw [if_pos h, if_pos h, hrv, e0, mj_bi_some, M_low hw, mj_bi_some, (TS_z0 (TS_00 (C := q.2) T3 h) (show c + 1 < c + 1 + 1 by omega)).1]
      · rw [if_neg h, if_neg h, hrv]
    refine Ok_i ⟨c, np, ne, st, N, L, nx, d, tp, ed, r⟩ (F1 := F) (v := v) ?_ cF ef (Cor_t (eG ▸ Cor_0) Cor_rq)
    have f228 : ∀ n v A, zs 34 f n v A (pl sw + 8) e = (l : Int) := fun n v A => by rw [zs_p zn34 (pl_pn sw) (by omega)]; exact tf
    simp only [c_X_soonest hw, X_isTable hw, X_isEdge hw f xe, mj_bi_some, i01]
    rw [if_neg (by omega), if_neg (by omega), if_neg (by omega), if_pos (by omega), mj_gd_pos ⟨by omega, by omega⟩, Int.toNat_natCast, Z_becomeTimed hw zn34 (zn215 ht) (by omega) f (TS_01 hbt).1 (r.2.1 t ht).1 (by omega) (by omega), mj_bu_some, show 215 + 2 * t + 1 = 216 + 2 * t by omega, mj_gd_pos ⟨by omega, by omega⟩, Int.toNat_natCast, f228, Z_waitIn hw zn34 (pl_pn sw) f (by omega) (by omega) (by omega) (sL_okr (by omega) hl).1 (f (215 + 2 * t) 2, ztm (c + 1) (gm (216 + 2 * t) 6 f)), mj_bu_some, X_edgeRules hw _ (by omega), mj_bi_some, Z_keep hw zn34 (pl_pn sw) f (by omega) (by omega) (sL_okr (by omega) se).1, mj_bu_some, ← hq, zs_v, zs_n, wL1 (by omega), hv]
    by_cases h : q.1 = 0
    · rw [if_pos h, if_pos h]
      by_cases h3 : x3 = 0
      · have e0 := Z_leastOf hw zn34 (zs 34 f ((c + 1 + 1 : Nat) : Int) q.1 q.2) (i := c + 1) (by omega)
        rw [if_neg (fun z => z h3), if_pos h3, e0, mj_bi_some, zs_gm (by omega) (by omega), hF]
      · have e0 : mj_call yZ_cell w (zs 34 f ((c + 1 + 1 : Nat) : Int) q.1 q.2) [.inr (.inl 34), .inl 0, .inl ((c + 1 : Nat) : Int)] = some (w, zs 34 f ((c + 1 + 1 : Nat) : Int) q.1 q.2, some (.inl (q.2 0 (c + 1)))) := Z_cell hw zn34 f _ _ _ (i := 0) (j := c + 1) (by omega) (by omega)
        rw [if_pos h3, if_neg h3, e0, mj_bi_some, c_X_reachedOf hw, mj_bi_some, hF]
    · rw [if_neg h, if_neg h, hF]
  · refine Ok_i ⟨c, np, ne, st, N, L, nx, d, tp, ed, r⟩ (F1 := f) (F3 := mj_u f 223 0 0) (v := -2000) ?_ (Cor_r _ _) ?_ Cor_0
    · simp only [c_X_soonest hw, X_isTable hw, X_isEdge hw f xe, mj_bi_some, i01]
      repeat' split
      all_goals first | rfl | (exfalso; omega)
    · simp only [c_M_soonest hw, M_isTable hw, M_isEdge hw _ me' (by omega), M_isTwo hw, mj_bi_some, i01]
      repeat' split
      all_goals first | rfl | (exfalso; omega)
end QU
