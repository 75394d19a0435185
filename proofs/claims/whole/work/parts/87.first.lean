/-! first. -/
theorem rv_201 {b : Int} (hb : b ≤ 1000000) : rv (if 201 < b then 201 else b) = bmn (rv b) (some 201) := by
  by_cases h1 : 1000000 ≤ b
  · rw [if_pos (by omega), rv_n h1]
    rfl
  · rw [rv_s (show b < 1000000 by omega)]
    by_cases h2 : 201 < b
    · rw [if_pos h2, bmn_eqr (show ble (some 201) (some b) by show (201 : Int) ≤ b; omega)]
      rfl
    · rw [if_neg h2, bmn_eql (show ble (some b) (some 201) by show b ≤ 201; omega), rv_s (by omega)]
theorem hun_e {n : Nat} {A B : Bt} (h : Eqn n A B) : Eqn n (hunT A) (hunT B) := fun i j hi hj => by
  unfold hunT
  rw [h i j hi hj]
theorem first_both {n : Nat} (hn : 0 < n) {M : Int} (hM : 202 ≤ M) (hb : bm (M + 1) n ≤ 1000000) {C A C' B' : Mt} (h : TS n M (0, C) (0, A)) (eC : ∀ i j, i < n → j < n → C' i j = whB (C i j)) (eB : ∀ i j, i < n → j < n → B' i j = rwb (hnd n n A i j)) : ((zcl n 0 C').1 = 1 ∧ (rcl n (0, B')).1 = 1) ∨ ((zcl n 0 C').1 = 0 ∧ (∃ i, i < n ∧ 100 < -((zcl n 0 C').2 0 i / 2)) ∧ (rcl n (0, B')).1 = 1 ∧ ∀ i, i < n → -1000000 < (zcl n 0 C').2 0 i ∧ (zcl n 0 C').2 0 i ≤ 1) ∨ ((zcl n 0 C').1 = 0 ∧ (∀ i, i < n → -((zcl n 0 C').2 0 i / 2) ≤ 100) ∧ (rcl n (0, B')).1 = 0 ∧ (∀ i, i < n → (rcl n (0, B')).2 0 i = (zcl n 0 C').2 0 i) ∧ ∀ i, i < n → -1000000 < (zcl n 0 C').2 0 i ∧ (zcl n 0 C').2 0 i ≤ 1) := by
  obtain ⟨w1, w2, w3, w4, w5, w6⟩ := wh_CS (by omega) hb h eC
  have hMb := bm_big (by omega : 0 ≤ M + 1) n
  have hA : NI n A := by
    rcases h with ⟨a, _⟩ | ⟨_, _, _, _, _, _, _, l⟩
    · exact absurd (show (0 : Int) = 1 from a) (by decide)
    · exact l
  have hAd : ∀ i, i < n → A i i = 1 := by
    rcases h with ⟨a, _⟩ | ⟨_, _, c1, _, _, c4, _, _⟩
    · exact absurd (show (0 : Int) = 1 from a) (by decide)
    · exact diag_rT c1 c4
  have hnr : ∀ i j, i < n → j < n → -1000000 < hnd n n A i j ∧ hnd n n A i j ≤ 1000000 := fun i j hi hj => by
    have := hA i j hi hj
    unfold hnd
    repeat' split
    all_goals omega
  have eT : Eqn n (rT B') (hunT (cT C')) := fun i j hi hj => by
    show rv (B' i j) = _
    rw [eB i j hi hj, rv_rwb (hnr i j hi hj)]
    unfold hunT hnd
    rw [w6 i j hi hj]
    by_cases hj0 : j = 0 ∧ 1 ≤ i ∧ i < n
    · rw [if_pos hj0, rv_201 (hA i j hi hj).2, wb_201, if_pos (show j = 0 ∧ i ≠ 0 from ⟨hj0.1, by omega⟩)]
      rfl
    · rw [if_neg hj0, if_neg (by omega)]
      rfl
  have bB : Bb n (M + 1) (rT B') := Bb_e (Eqn_s eT) (fun i j x hi hj hx => by
    unfold hunT at hx
    split at hx
    · rcases bmn_some hx with h1 | h1
      · exact w4 i j x hi hj h1
      · have : (201 : Int) = x := Option.some.inj h1
        omega
    · exact w4 i j x hi hj hx)
  have nB : NI n B' := Bb_NI (by omega) bB (fun i j hi hj => by
    have := hnr i j hi hj
    rw [eB i j hi hj, rwb_v (by omega)]
    split
    · omega
    · split <;> omega)
  have dB : ∀ i, i < n → B' i i ≤ 1 := fun i hi => by
    rw [eB i i hi hi]
    unfold hnd
    rw [if_neg (by omega), hAd i hi]
    decide
  have hR := rcl_RS (by omega) hb bB nB dB
  generalize zcl n 0 C' = q at w1
  generalize rcl n (0, B') = r at hR
  rcases w1 with ⟨a1, a2⟩ | ⟨a1, a2, a3⟩
  · refine Or.inl ⟨a1, ?_⟩
    rcases hR with ⟨b1, _⟩ | ⟨_, b2, _⟩
    · exact b1
    · have hv : Vd n (hunT (cT C')) := fun D hd hD => a2 D hd ((hun_iff hn hd).1 hD).1
      exact (Gr_v b2 (Vd_sm (Sm_e (Eqn_s eT)) hv)).elim
  · have hsm : Sm n (rT B') (hunT (cT q.2)) := Sm_t (Sm_e eT) (fun D hd => by
      rw [hun_iff hn hd, hun_iff hn hd, (Sm_gr a2) D hd])
    have oW := Gr_odd w2 a2
    have zW : Zr n (cT q.2) := fun j hj => ble_t (a2.2.1 0 j hn hj) (w3 j hj)
    have bW := Gr_bb (by omega) w4 w5 a2
    have hfin : ∀ i, i < n → q.2 0 i < 268435456 := fun i hi => by
      have := zW i hi
      by_cases hlt : q.2 0 i < 268435456
      · exact hlt
      · rw [show cT q.2 0 i = none from cv_n (by omega)] at this
        exact absurd this ble_ns
    have hval : ∀ i, i < n → cT q.2 0 i = some (q.2 0 i) := fun i hi => cv_s (hfin i hi)
    have hl : ∀ i, i < n → lsp (cT q.2) i = -(q.2 0 i / 2) := fun i hi => by
      have ho := oW 0 i _ hn hi (hval i hi)
      unfold lsp
      rw [hval i hi]
      show (1 - q.2 0 i) / 2 = _
      omega
    have hr1 : ∀ i, i < n → -1000000 < q.2 0 i ∧ q.2 0 i ≤ 1 := fun i hi => by
      have h1 := bW 0 i _ hn hi (hval i hi)
      have h2 := zW i hi
      rw [hval i hi] at h2
      exact ⟨by omega, h2⟩
    by_cases hall : ∀ i, i < n → -(q.2 0 i / 2) ≤ 100
    · obtain ⟨f1, f2⟩ := first_ok hn a2.1 oW zW (fun i hi => by rw [hl i hi]; exact hall i hi)
      refine Or.inr (Or.inr ⟨a1, hall, ?_, ?_, hr1⟩)
      · rcases hR with ⟨_, b2⟩ | ⟨b1, _, _⟩
        · exact (f1 (Vd_sm hsm b2)).elim
        · exact b1
      · intro i hi
        rcases hR with ⟨_, b2⟩ | ⟨_, b2, _⟩
        · exact (f1 (Vd_sm hsm b2)).elim
        · have e := f2 _ (Gr_sm hsm b2) i hi
          rw [hval i hi] at e
          exact (rv_i e).1
    · refine Or.inr (Or.inl ⟨a1, ?_, ?_, hr1⟩)
      · exact Classical.byContradiction (fun hne => hall (fun i hi => Classical.byContradiction (fun hlt => hne ⟨i, hi, by omega⟩)))
      · obtain ⟨i, hi, hlt⟩ : ∃ i, i < n ∧ 100 < -(q.2 0 i / 2) := Classical.byContradiction (fun hne => hall (fun i hi => Classical.byContradiction (fun hlt => hne ⟨i, hi, by omega⟩)))
        have hv := first_no hn a2.1 oW zW hi (by rw [hl i hi]; exact hlt)
        rcases hR with ⟨b1, _⟩ | ⟨_, b2, _⟩
        · exact b1
        · exact (Gr_v b2 (Vd_sm (Sm_s hsm) hv)).elim
theorem first_diag {n : Nat} (hn : 0 < n) (hb : bm (802 + 1) n ≤ 1000000) {C A C' : Mt} (h : TS n 802 (0, C) (0, A)) (eC : ∀ i j, i < n → j < n → C' i j = whB (C i j)) (h0 : (zcl n 0 C').1 = 0) : (zcl n 0 C').2 0 0 = 1 := by
  obtain ⟨w1, _⟩ := wh_CS (M := 802) (by decide) hb h eC
  rcases w1 with ⟨a1, _⟩ | ⟨_, a2, _⟩
  · rw [h0] at a1; exact absurd a1 (by decide)
  · exact diag_cT a2.1 0 hn
theorem wneg {b : Int} (h : -1000000 < b ∧ b ≤ 1000000) : mj_w (-(mj_shr b 1)) = -(b / 2) := by
  rw [shr_1 (by omega)]
  unfold mj_w
  omega
section QU
variable {sw : Bool} {w : mj_W}
theorem X_first52 (hw : wk sw w) (f : mj_F) {n x : Nat} (hn : n + 1 ≤ 6) (hx : x < n) (C : Mt) (t : Int) (hC : ∀ i, i < n + 1 → -1000000 < C 0 i ∧ C 0 i ≤ 1) : mj_run yX_first w (zs 32 f ((n + 1 : Nat) : Int) 0 C) 52 [.inr (.inl 2), .inl t, .inl (x : Int), .inl 1] [] = some (w, zs 32 f ((n + 1 : Nat) : Int) 0 C, some (.inl (if any n (fun i => decide (100 < -(C 0 (i + 1) / 2))) = true then -2 else -(C 0 (x + 1) / 2)))) := by
  have hl : ∀ i, i < n + 1 → mj_call yZ_leastOf w (zs 32 f ((n + 1 : Nat) : Int) 0 C) [.inr (.inl 32), .inl (i : Int)] = some (w, zs 32 f ((n + 1 : Nat) : Int) 0 C, some (.inl (-(C 0 i / 2)))) := fun i hi => by
    rw [Z_leastOf hw zn32 _ (by omega), zs_gm (by omega) (by omega), wneg (by have := hC i hi; omega)]
  rcases loop_any (fun i (_ : Unit) => mj_run yX_first w (zs 32 f ((n + 1 : Nat) : Int) 0 C) 52 [.inr (.inl 2), .inl t, .inl (x : Int), .inl ((i + 1 : Nat) : Int)] []) (some (w, zs 32 f ((n + 1 : Nat) : Int) 0 C, some (.inl (-2)))) (fun i => decide (100 < -(C 0 (i + 1) / 2))) n (fun i _ hi hg => by
      have hg' : 100 < -(C 0 (i + 1) / 2) := of_decide_eq_true hg
      rw [l_X_first_52 hw, zs_n, if_neg (by omega), hl (i + 1) (by omega), mj_bi_some, if_neg (by omega)]) (fun i _ hi hg => ⟨(), by
      have hg' : ¬ 100 < -(C 0 (i + 1) / 2) := of_decide_eq_false hg
      rw [l_X_first_52 hw, zs_n, if_neg (by omega), hl (i + 1) (by omega), mj_bi_some, if_pos (by omega), wS (by omega)]⟩) () with ⟨a, b⟩ | ⟨a, _, b⟩
  · rw [if_pos a]; exact b
  · rw [if_neg (by rw [a]; decide)]
    refine b.trans ?_
    rw [l_X_first_52 hw, zs_n, if_pos (by omega), wS (by omega), hl (x + 1) (by omega), mj_bi_some]
theorem R_first29 (hw : wk sw w) (g : mj_F) {n x : Nat} (hn : n + 1 ≤ 6) (hx : x < n) (v : Int) (hv : v = 0 ∨ v = 1) (A : Mt) (t : Int) : mj_run yM_first w (rq g ((n + 1 : Nat) : Int) v A) 29 [.inr (.inl 223), .inl t, .inl (x : Int), .inl 1] [] = some (w, rq g ((n + 1 : Nat) : Int) (rcl (n + 1) (v, sqn (n + 1) (fun i j => rwb (hnd (n + 1) (n + 1) A i j)) (hnd (n + 1) (n + 1) A))).1 (rcl (n + 1) (v, sqn (n + 1) (fun i j => rwb (hnd (n + 1) (n + 1) A i j)) (hnd (n + 1) (n + 1) A))).2, some (.inl (if (rcl (n + 1) (v, sqn (n + 1) (fun i j => rwb (hnd (n + 1) (n + 1) A i j)) (hnd (n + 1) (n + 1) A))).1 = 0 then mj_w (-(mj_shr ((rcl (n + 1) (v, sqn (n + 1) (fun i j => rwb (hnd (n + 1) (n + 1) A i j)) (hnd (n + 1) (n + 1) A))).2 0 (x + 1)) 1)) else -2))) := by
  have h := loop_st (fun k => mj_run yM_first w (rq g ((n + 1 : Nat) : Int) v (hnd (n + 1) k A)) 29 [.inr (.inl 223), .inl t, .inl (x : Int), .inl (k : Int)] []) (show 1 ≤ n + 1 by omega) (fun k hk1 hk => by
    have e1 : mj_w (mj_w (2 * 100) + 1) = 201 := by decide
    have e2 := R_tight hw g ((n + 1 : Nat) : Int) v (hnd (n + 1) k A) (i := k) (j := 0) 201 (by omega) (by omega)
    rw [l_M_first_29 hw, rq_n, if_neg (by omega), c_M_reachedS hw, mj_bi_some, e1]
    refine (congrArg (fun r => mj_bu r _) e2).trans ?_
    rw [mj_bu_some, hnd_S hk1, wS (by omega)])
  have h0 : hnd (n + 1) 1 A = A := by
    funext i j
    unfold hnd
    rw [if_neg (by omega)]
  rw [h0] at h
  refine h.trans ?_
  rw [l_M_first_29 hw, rq_n, if_pos (by omega), R_wholes hw g (by omega) (v, hnd (n + 1) (n + 1) A) hv, mj_bu_some, rq_v]
  dsimp only
  generalize rcl (n + 1) (v, sqn (n + 1) (fun i j => rwb (hnd (n + 1) (n + 1) A i j)) (hnd (n + 1) (n + 1) A)) = q
  by_cases hq : q.1 = 0
  · have e0 : mj_call yM_get w (rq g ((n + 1 : Nat) : Int) q.1 q.2) [.inr (.inl 223), .inl 0, .inl ((x + 1 : Nat) : Int)] = some (w, rq g ((n + 1 : Nat) : Int) q.1 q.2, some (.inl (q.2 0 (x + 1)))) := R_get hw g _ _ _ (i := 0) (j := x + 1) (by omega) (by omega)
    rw [if_pos hq, if_pos hq, wS (by omega), e0, mj_bi_some, M_numberOf hw, mj_bi_some]
  · rw [if_neg hq, if_neg hq]
theorem ok_first (hw : wk sw w) {f : mj_F} (r : RR sw f) (x1 x2 : Int) : Ok sw w f yX_first yM_first [.inl x1, .inl x2] := by
  obtain ⟨c, np, ne, st, N, L, nx, d, tp, ed, r⟩ := r
  obtain ⟨⟨hc4, hn8, he16, _, _⟩, ⟨_, xc, mc, xp, mp, xe, me, xs, ms⟩, hL, hE, h0, hg⟩ := r.1
  have xn := r.2.2.1.2.1
  have mn := r.2.2.1.2.2.1
  have hN := r.2.2.1.1
  have mc' : mj_u f 223 0 0 223 2 = (c : Int) := mc
  have mp' : mj_u f 223 0 0 223 3 = (np : Int) := mp
  have me' : mj_u f 223 0 0 223 4 = (ne : Int) := me
  have mn' : mj_u f 223 0 0 223 23 = (N : Int) := mn
  by_cases hV : (0 ≤ x1 ∧ x1 < 4) ∧ (0 ≤ x2 ∧ x2 < (c : Int))
  · obtain ⟨t, rfl⟩ : ∃ t : Nat, x1 = (t : Int) := ⟨x1.toNat, by omega⟩
    obtain ⟨x, rfl⟩ : ∃ x : Nat, x2 = (x : Int) := ⟨x2.toNat, by omega⟩
    have ht : t < 4 := by omega
    have hbm : bm (802 + 1) (c + 1) ≤ 1000000 := by
      have := bm5 (M := 802 + 1) (by decide) (show c + 1 ≤ 5 by omega)
      omega
    obtain ⟨q, hq⟩ : ∃ q : Int × Mt, q = zcl (c + 1) (f (215 + 2 * t) 2) (zm 36 (fun i j => whB (gm (216 + 2 * t) 6 f i j)) (gm (216 + 2 * t) 6 f)) := ⟨_, rfl⟩
    have cF : Cor sw f (zs 32 f ((c + 1 : Nat) : Int) q.1 q.2) := Cor_zs (Or.inl rfl)
    generalize hF : zs 32 f ((c + 1 : Nat) : Int) q.1 q.2 = F at cF
    have RG := RX_c (Cor_t cF Cor_0) r
    have hG : Cor sw f (mj_u F 223 0 0) := Cor_t cF Cor_0
    obtain ⟨G, eG⟩ : ∃ G, G = mj_u F 223 0 0 := ⟨_, rfl⟩
    rw [← eG] at RG hG
    obtain ⟨r', l1, l2⟩ := loadT2 hw r.2.1 RG.1 (hG.1 234 (cA_m (by omega))) ht
    have eX : mj_call yX_first w f [.inr (.inl 2), .inl (t : Int), .inl (x : Int)] = if q.1 = 0 then mj_run yX_first w (zs 32 f ((c + 1 : Nat) : Int) q.1 q.2) 52 [.inr (.inl 2), .inl (t : Int), .inl (x : Int), .inl 1] [] else some (w, zs 32 f ((c + 1 : Nat) : Int) q.1 q.2, some (.inl (-2))) := by
      simp only [c_X_first hw, X_isTable hw, X_isClock hw f xc, mj_bi_some, i01]
      rw [if_neg (by omega), if_pos (by omega), mj_gd_pos ⟨by omega, by omega⟩, Int.toNat_natCast, bec hw r ht, mj_bu_some, Z_keepWhole hw zn32 f (by omega), mj_bu_some, ← hq, zs_v]
    have eM : mj_call yM_first w F [.inr (.inl 223), .inl (t : Int), .inl (x : Int)] = mj_run yM_first w (rq G ((c + 1 : Nat) : Int) r'.1 r'.2) 29 [.inr (.inl 223), .inl (t : Int), .inl (x : Int), .inl 1] [] := by
      rw [c_M_first hw, ← eG]
      simp only [M_isTable hw, M_isClock hw G RG.1.2.1.2.2.1 (by omega), mj_bi_some, i01]
      rw [if_neg (by omega), if_pos (by omega), l1, mj_bu_some]
    rw [R_first29 hw G (by omega) (by omega) _ (TS_01 l2).2.1] at eM
    obtain ⟨B', hB'⟩ : ∃ B', B' = sqn (c + 1) (fun i j => rwb (hnd (c + 1) (c + 1) r'.2 i j)) (hnd (c + 1) (c + 1) r'.2) := ⟨_, rfl⟩
    rw [← hB'] at eM
    have cX : ∀ n v A, Cor sw F (rq G n v A) := fun n v A => Cor_t (eG ▸ Cor_0) Cor_rq
    by_cases h0 : f (215 + 2 * t) 2 = 0
    · have l3 := TS_00 l2 h0
      have hr0 : r'.1 = 0 := (TS_01 l2).2.2.symm.trans h0
      rw [hr0] at eM
      rw [h0] at hq
      have fb := first_both (M := 802) (by omega) (by decide) hbm l3 (C' := zm 36 (fun i j => whB (gm (216 + 2 * t) 6 f i j)) (gm (216 + 2 * t) 6 f)) (B' := B') (fun i j hi hj => zm_in (by omega) (by omega)) (fun i j hi hj => by rw [hB', sqn_in hi hj])
      rw [← hq] at fb
      rcases fb with ⟨a1, a2⟩ | ⟨a1, a2, a3, a4⟩ | ⟨a1, a2, a3, a4, a5⟩
      · rw [if_neg (by omega), hF] at eX
        rw [if_neg (by omega)] at eM
        exact Ok_i ⟨c, np, ne, st, N, L, nx, d, tp, ed, r⟩ eX cF eM (cX _ _ _)
      · rw [if_pos a1, a1, X_first52 hw f (by omega) (by omega) q.2 _ a4, ← a1, hF] at eX
        have ha : any c (fun i => decide (100 < -(q.2 0 (i + 1) / 2))) = true := by
          rw [any_iff]
          obtain ⟨i, hi, hlt⟩ := a2
          cases i with
          | zero =>
            exfalso
            have hz := a4 0 (by omega)
            have hd := first_diag (by omega) hbm l3 (fun i j hi hj => zm_in (by omega) (by omega)) (hq ▸ a1)
            rw [← hq] at hd
            omega
          | succ i => exact ⟨i, by omega, decide_eq_true hlt⟩
        rw [if_pos ha] at eX
        rw [if_neg (by omega)] at eM
        exact Ok_i ⟨c, np, ne, st, N, L, nx, d, tp, ed, r⟩ eX cF eM (cX _ _ _)
      · rw [if_pos a1, a1, X_first52 hw f (by omega) (by omega) q.2 _ a5, ← a1, hF] at eX
        have ha : ¬ any c (fun i => decide (100 < -(q.2 0 (i + 1) / 2))) = true := by
          rw [any_iff]
          intro ⟨i, hi, hd⟩
          have := a2 (i + 1) (by omega)
          have hd' : 100 < -(q.2 0 (i + 1) / 2) := of_decide_eq_true hd
          omega
        rw [if_neg ha] at eX
        rw [if_pos a3, a4 (x + 1) (by omega), wneg (by have := a5 (x + 1) (by omega); omega)] at eM
        exact Ok_i ⟨c, np, ne, st, N, L, nx, d, tp, ed, r⟩ eX cF eM (cX _ _ _)
    · have h1 : f (215 + 2 * t) 2 = 1 := by
        rcases (TS_01 (r.2.1 t ht).2).1 with h | h
        · exact absurd h h0
        · exact h
      have hr1 : r'.1 = 1 := (TS_01 l2).2.2.symm.trans h1
      have hq1 : q.1 = 1 := by rw [hq]; unfold zcl; rw [if_pos h0]
      rw [if_neg (by omega), hF] at eX
      rw [if_neg (by rw [rcl_v (show (r'.1, B').1 = 1 from hr1)]; decide)] at eM
      exact Ok_i ⟨c, np, ne, st, N, L, nx, d, tp, ed, r⟩ eX cF eM (cX _ _ _)
  · refine Ok_i ⟨c, np, ne, st, N, L, nx, d, tp, ed, r⟩ (F1 := f) (F3 := mj_u f 223 0 0) (v := -1) ?_ (Cor_r _ _) ?_ Cor_0
    · simp only [c_X_first hw, X_isTable hw, X_isClock hw f xc, mj_bi_some, i01]
      repeat' split
      all_goals first | rfl | (exfalso; omega)
    · simp only [c_M_first hw, M_isTable hw, M_isClock hw _ mc' (by omega), mj_bi_some, i01]
      repeat' split
      all_goals first | rfl | (exfalso; omega)
end QU
