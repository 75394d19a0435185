/-! fastest. -/
theorem PR_0 {f : mj_F} {ed : Nat → Nat} {st : Nat} {D : Bt} (hd : Cl 1 D) : PR f ed st D 0 ↔ stOK f st := by
  show rlL f st 0 (sb f ed 0) D ↔ rlL f st 0 (fun _ => 0, fun _ => 0) (fun _ _ => some 1)
  unfold rlL rlP
  have e : D 0 0 = some 1 := hd.1 0 (by omega)
  constructor
  · intro h k hk
    have := h k hk
    have e1 : ∀ c, ((sb f ed 0).1 c).toNat = 0 := fun _ => rfl
    rw [e1, e] at this
    exact this
  · intro h k hk
    have := h k hk
    have e1 : ∀ c, ((sb f ed 0).1 c).toNat = 0 := fun _ => rfl
    rw [e1, e]
    exact this
theorem TR_0 {f : mj_F} {ed : Nat → Nat} {st : Nat} (h : stOK f st) : TR f ed st 0 (0, fun _ _ => 1) := by
  have hc : Cl 1 (fun _ _ => some 1 : Bt) := ⟨fun _ _ => rfl, fun i j k _ _ _ => by
    show (1 : Int) ≤ pz 1 1
    decide⟩
  refine Or.inr ⟨rfl, (fun _ _ => some 1), fun D hd => ⟨fun _ => ⟨fun j hj => ?_, (PR_0 hd).2 h⟩, fun _ i j hi hj => ?_⟩, Gr_self hc, fun i j _ _ => ⟨by show (-1000000 : Int) < 1; decide, by show (1 : Int) ≤ 1000000; decide⟩⟩
  · rw [show j = 0 by omega, hd.1 0 (by omega)]; exact ble_r _
  · rw [show i = 0 by omega, show j = 0 by omega, hd.1 0 (by omega)]; exact ble_r _
section FA
variable {sw : Bool} {w : mj_W}
theorem ok_fastest (hw : wk sw w) {f : mj_F} (r : RR sw f) (x1 x2 : Int) : Ok sw w f yX_fastest yM_fastest [.inl x1, .inl x2] := by
  obtain ⟨c, np, ne, st, N, L, nx, d, tp, ed, r⟩ := r
  obtain ⟨⟨hc4, hn8, he16, _, _⟩, ⟨_, xc, mc, xp, mp, xe, me, xs, ms⟩, hL, hE, h0, hg⟩ := r.1
  have xn := r.2.2.1.2.1
  have mn := r.2.2.1.2.2.1
  have hN := r.2.2.1.1
  have mc' : mj_u f 223 0 0 223 2 = (c : Int) := mc
  have mp' : mj_u f 223 0 0 223 3 = (np : Int) := mp
  have me' : mj_u f 223 0 0 223 4 = (ne : Int) := me
  have mn' : mj_u f 223 0 0 223 23 = (N : Int) := mn
  by_cases hV : (0 ≤ x1 ∧ x1 < (np : Int)) ∧ (0 ≤ x2 ∧ x2 < 2)
  · obtain ⟨p, rfl⟩ : ∃ p : Nat, x1 = (p : Int) := ⟨x1.toNat, by omega⟩
    have hp : p < np := by omega
    have hp0 := pl_o sw
    rcases G_findWay hw r.2.2.1 hn8 hp with ⟨a, e1⟩ | ⟨k, n, hk, hn, a, hpk, dk, e1⟩
    · have e2 := (M_laysRoad hw (RX_c Cor_0 r).2.2.1 hp).1 (by rw [mu0a (by decide)]; exact a)
      refine Ok_i ⟨c, np, ne, st, N, L, nx, d, tp, ed, r⟩ (F1 := f) (F3 := mj_u f 223 0 0) (v := -2) ?_ (Cor_r _ _) ?_ Cor_0
      · simp only [c_X_fastest hw, X_isPlace hw f xp, mj_bi_some, i01]
        rw [if_neg (by omega), if_neg (by omega), if_pos (by omega), e1, mj_bi_some, if_neg (by decide)]
      · simp only [c_M_fastest hw, M_isPlace hw _ mp' (by omega), M_isTwo hw, mj_bi_some, i01]
        rw [if_neg (by omega), if_pos (by omega), e2, mj_bi_some, if_neg (by decide)]
    · have hnp0 : 0 < np := by omega
      have hn59 : n ≤ 59 := by omega
      have c1 : Cor sw f (wyF f 45 n k f) := Cor_wy
      obtain ⟨F1, hF1⟩ : ∃ F1, F1 = wyF f 45 n k f := ⟨_, rfl⟩
      rw [← hF1] at c1 e1
      have r1 := RX_c c1 r
      obtain ⟨ed', hed'⟩ : ∃ ed' : Nat → Nat, ed' = fun i => (rdE f n k i).toNat := ⟨_, rfl⟩
      obtain ⟨wc, wend⟩ := way_chn r.2.2.1 n k hk dk
      rw [← hed'] at wc wend
      have hrow : ∀ i, i < n → rdE f n k i = (ed' i : Int) := fun i hi => by
        obtain ⟨e, b1, _⟩ := wc i hi
        rw [hed']
        show rdE f n k i = ((rdE f n k i).toNat : Int)
        rw [b1, Int.toNat_natCast]
      have hch0 : chn f ne st n ed' := fun i hi => by
        obtain ⟨e, b1, b2, b3⟩ := wc i hi
        have : ed' i = e := by have := hrow i hi; omega
        rw [this]
        exact ⟨b2, b3⟩
      have hch1 : chn F1 ne st n ed' := chn_c (c1.1 228 (cA_m (by omega))) (c1.1 229 (cA_m (by omega))) hch0
      have h45 : ∀ i, i < n → F1 45 i = (ed' i : Int) := fun i hi => by rw [hF1, wyF_at n k _ hi]; exact hrow i hi
      have hso : stOK f st := ((r.2.2.1.2.2.2.1 0 (by omega)).2.2.2.1 rfl).2.2.2.2
      have hpf1 : Pf f F1 := ⟨c1.1 224 (cA_m (by omega)), c1.1 225 (cA_m (by omega)), c1.1 226 (cA_m (by omega)), c1.1 227 (cA_m (by omega)), c1.1 229 (cA_m (by omega)), c1.1 230 (cA_m (by omega)), c1.1 231 (cA_m (by omega)), c1.1 232 (cA_m (by omega))⟩
      have hso1 : stOK F1 st := by rw [stOK_c hpf1]; exact hso
      have hnv0 : ¬ Vi F1 ed' st 0 := fun v => by
        have hfl := (T_fl (TR_0 (ed := ed') hso1)).2.2 v
        exact absurd (show (0 : Int) = 1 from hfl) (by decide)
      have WI1 := qW_WI r1.1 hnp0 hch1 hn59 n (Nat.le_refl n)
      have hsb : (sb F1 ed' n).1 c = 0 ∧ (sb F1 ed' n).2 c = 0 := sb_in n (fun i k' hi hk' => by
        obtain ⟨_, ⟨m, m4, m1, m2, m3, m5⟩, _⟩ := r1.1.2.2.2.1 (ed' i) (hch1 i hi).1
        rw [m2, Int.toNat_natCast] at hk'
        have := m5 k' hk'
        omega)
      obtain ⟨q, b, e2, hb⟩ := W_breakIn hw r1.1 hnp0 hch1 hn59 (k_45 hw) (show n ≤ 60 by omega) (by decide) h45
      have cF : Cor sw F1 (zs 176 F1 ((c + 2 : Nat) : Int) q.1 q.2) := Cor_zs (Or.inr (Or.inr (Or.inr rfl)))
      obtain ⟨F2, hF2⟩ : ∃ F2, F2 = zs 176 F1 ((c + 2 : Nat) : Int) q.1 q.2 := ⟨_, rfl⟩
      have eX : mj_call yX_fastest w f [.inr (.inl 2), .inl (p : Int), .inl x2] = if b = -2 then (if ¬ x2 = 0 then some (w, F2, some (.inl (mj_and (q.2 0 (c + 1)) 1))) else some (w, F2, some (.inl (mj_w (-(mj_shr (q.2 0 (c + 1)) 1)))))) else some (w, F2, some (.inl (-3))) := by
        clear hb
        have e0 : mj_call yZ_cell w (zs 176 F1 ((c + 2 : Nat) : Int) q.1 q.2) [.inr (.inl 176), .inl 0, .inl ((c + 1 : Nat) : Int)] = some (w, zs 176 F1 ((c + 2 : Nat) : Int) q.1 q.2, some (.inl (q.2 0 (c + 1)))) := Z_cell hw zn176 F1 _ _ _ (i := 0) (j := c + 1) (by omega) (by omega)
        have e00 := Z_leastOf hw zn176 (zs 176 F1 ((c + 2 : Nat) : Int) q.1 q.2) (i := c + 1) (by omega)
        rw [zs_gm (by omega) (by omega)] at e00
        simp only [c_X_fastest hw, X_isPlace hw f xp, mj_bi_some, i01]
        rw [if_neg (by omega), if_neg (by omega), if_pos (by omega), e1, mj_bi_some, if_pos (by omega), e2, mj_bi_some, zs_n, wL1 (by omega), e0, mj_bi_some, c_X_reachedOf hw, mj_bi_some, e00, mj_bi_some, ← hF2]
      rw [← hF2] at cF
      obtain ⟨G, hG⟩ : ∃ G, G = mj_u F2 223 0 0 := ⟨_, rfl⟩
      have cG : Cor sw F2 G := hG ▸ Cor_0
      have c3 := Cor_t c1 (Cor_t cF cG)
      have rG := RX_c c3 r
      have e3 := (M_laysRoad hw rG.2.2.1 hp).2 k n hk (by rw [c3.1 44 (cA_g (by omega))]; exact a) (by rw [c3.1 42 (cA_g (by omega))]; exact dk)
      have cH : Cor sw G (wyF G 254 n k (mj_u G 223 56 (n : Int))) := Cor_rd
      have h254 : ∀ i, i < n → wyF G 254 n k (mj_u G 223 56 (n : Int)) 254 i = (ed' i : Int) := fun i hi => by
        rw [wyF_at n k _ hi, rdE_c (c3.1 237 (cA_m (by omega))) (c3.1 238 (cA_m (by omega)))]
        exact hrow i hi
      have h56 : wyF G 254 n k (mj_u G 223 56 (n : Int)) 223 56 = (n : Int) := by rw [wyF_o (by decide), u_self]
      obtain ⟨H, hH⟩ : ∃ H, H = wyF G 254 n k (mj_u G 223 56 (n : Int)) := ⟨_, rfl⟩
      rw [← hH] at e3 cH h254 h56
      have c4 := Cor_t c3 cH
      have rH := RX_c c4 r
      have mpG : G 223 3 = (np : Int) := rG.1.2.1.2.2.2.2.1
      have eM : mj_call yM_fastest w F2 [.inr (.inl 223), .inl (p : Int), .inl x2] = if ¬ (n : Int) = 0 then mj_bu (mj_call yM_laysTimes w H [.inr (.inl 223), .inr (.inl 254), .inl 0, .inl (n : Int)]) (fun f7 => if (f7 223 53) = 0 then mj_bi (mj_call yM_spanOf w f7 [.inr (.inl 223), .inl 0, .inl (f7 223 56), .inl 0, .inl x2]) (fun f8 v9 => some (w, f8, some (.inl v9))) else some (w, f7, some (.inl (-3)))) else some (w, H, some (.inl x2)) := by
        clear hb
        rw [c_M_fastest hw, ← hG]
        simp only [M_isPlace hw G mpG (by omega), M_isTwo hw, mj_bi_some, i01]
        rw [if_neg (by omega), if_pos (by omega), e3, mj_bi_some, if_pos (by decide), h56]
      -- whether the walk goes through
      have hbv : (b = -2 ↔ ¬ Vi F1 ed' st n) ∧ (b = -2 → q = qW F1 (pl sw) (c + 2) st ed' n) := by
        rcases hb with ⟨b1, b2, b3⟩ | ⟨i, hi, b1, b2, b3⟩ | ⟨b1, b2⟩
        · exact ⟨⟨fun _ => b3 n (Nat.le_refl n), fun _ => b1⟩, fun _ => b2⟩
        · refine ⟨⟨fun z => absurd (b1.symm.trans z) (by omega), fun z => absurd (Vi_up (by omega) b3) z⟩, fun z => absurd (b1.symm.trans z) (by omega)⟩
        · exact absurd b1 hnv0
      clear hb
      by_cases hn0 : n = 0
      · subst hn0
        have hb2 := hbv.1.2 hnv0
        have hq := hbv.2 hb2
        have wl := WI_last WI1 (TR_0 hso1) rfl (show c + 1 < c + 2 by omega) hsb
        rw [← hq] at wl
        have q1 : q.2 0 (c + 1) = 1 := (cv_i (show cv (q.2 0 (c + 1)) = some 1 from wl)).1
        rw [if_pos hb2, q1] at eX
        rw [if_neg (fun z => z rfl)] at eM
        have hx2 : x2 = 0 ∨ x2 = 1 := by omega
        rcases hx2 with rfl | rfl
        · rw [if_neg (fun z => z rfl)] at eX
          exact ⟨F2, H, 0, eX, eM, c, np, ne, st, N, L, nx, d, tp, ed, rH⟩
        · rw [if_pos (by decide)] at eX
          exact ⟨F2, H, 1, eX, eM, c, np, ne, st, N, L, nx, d, tp, ed, rH⟩
      · rw [if_pos (by omega)] at eM
        have hchH : chn H ne st n ed' := chn_c (c4.1 228 (cA_m (by omega))) (c4.1 229 (cA_m (by omega))) hch0
        obtain ⟨G1, r', e4, t, o, _⟩ := M_lays hw rH.1 hnp0 hchH hn59 (k_254 hw) (by decide) (by decide) (show 0 + n ≤ 60 by omega) (by decide) (fun i hi => by rw [Nat.zero_add]; exact h254 i hi)
        have hpf : Pf H F1 := by
          have hh : ∀ x, 224 ≤ x → x ≤ 240 → F1 x = H x := fun x h1 h2 => (c1.1 x (cA_m ⟨h1, h2⟩)).trans (c4.1 x (cA_m ⟨h1, h2⟩)).symm
          exact ⟨hh 224 (by decide) (by decide), hh 225 (by decide) (by decide), hh 226 (by decide) (by decide), hh 227 (by decide) (by decide), hh 229 (by decide) (by decide), hh 230 (by decide) (by decide), hh 231 (by decide) (by decide), hh 232 (by decide) (by decide)⟩
        have t1 := TR_c hpf t
        have fl := T_fl t1
        have h56' : rq G1 ((n + 1 : Nat) : Int) r'.1 r'.2 223 56 = (n : Int) := by rw [rq_f (by decide) (by decide), o 223 56 (by omega)]; exact h56
        have cE : Cor sw H (rq G1 ((n + 1 : Nat) : Int) r'.1 r'.2) := Cor_t (Cor_a (fun a q h => o a q (by omega))) Cor_rq
        have rE := RX_c cE rH
        replace eM := eM.trans ((congrArg (fun z => mj_bu z _) e4).trans (mj_bu_some ..))
        rw [rq_v, h56'] at eM
        by_cases hv : Vi F1 ed' st n
        · rw [if_neg (fun z => hbv.1.1 z hv)] at eX
          rw [if_neg (by rw [fl.2.2 hv]; decide)] at eM
          exact ⟨F2, _, -3, eX, eM, c, np, ne, st, N, L, nx, d, tp, ed, rE⟩
        · have hb2 := hbv.1.2 hv
          have hq := hbv.2 hb2
          have hr0 : r'.1 = 0 := by
            rcases fl.1 with h | h
            · exact h
            · exact absurd (fl.2.1 h) hv
          have wl := WI_last WI1 t1 hr0 (show c + 1 < c + 2 by omega) hsb
          rw [← hq] at wl
          have hfin : ∃ y, rv (r'.2 0 n) = some y ∧ r'.2 0 n = y := by
            rcases t1 with ⟨z, _⟩ | ⟨_, K, k1, k2, _⟩
            · rw [hr0] at z; exact absurd z (by decide)
            · have z : ble (rv (r'.2 0 n)) (some 1) := ((k1 _ k2.1).1 k2.2.1).1 n (by omega)
              by_cases hlt : r'.2 0 n < 1000000
              · exact ⟨r'.2 0 n, rv_s hlt, rfl⟩
              · rw [rv_n (by omega)] at z
                exact absurd z ble_ns
          obtain ⟨y, y1, y2⟩ := hfin
          have qy : q.2 0 (c + 1) = r'.2 0 n := by rw [y1] at wl; rw [y2]; exact (cv_i wl).1
          have hsp := R_span hw G1 ((n + 1 : Nat) : Int) r'.1 r'.2 (i := 0) (j := n) (by omega) (by omega) 0 x2 (by omega)
          rw [if_pos hr0] at eM
          replace eM := eM.trans ((congrArg (fun z => mj_bi z _) hsp).trans (mj_bi_some ..))
          rw [if_pos hb2, qy] at eX
          have hx2 : x2 = 0 ∨ x2 = 1 := by omega
          rcases hx2 with rfl | rfl
          · rw [if_neg (fun z => z rfl)] at eX
            have es : spR (r'.2 0 n) (r'.2 n 0) 0 0 = mj_w (-(mj_shr (r'.2 0 n) 1)) := by unfold spR; rw [if_pos rfl, Int.zero_sub]
            rw [es] at eM
            exact ⟨F2, _, _, eX, eM, c, np, ne, st, N, L, nx, d, tp, ed, rE⟩
          · rw [if_pos (by decide)] at eX
            have es : spR (r'.2 0 n) (r'.2 n 0) 0 1 = mj_and (r'.2 0 n) 1 := by unfold spR; rw [if_neg (by decide), if_pos rfl]
            rw [es] at eM
            exact ⟨F2, _, _, eX, eM, c, np, ne, st, N, L, nx, d, tp, ed, rE⟩
  · refine Ok_i ⟨c, np, ne, st, N, L, nx, d, tp, ed, r⟩ (F1 := f) (F3 := mj_u f 223 0 0) (v := -1) ?_ (Cor_r _ _) ?_ Cor_0
    · simp only [c_X_fastest hw, X_isPlace hw f xp, mj_bi_some, i01]
      repeat' split
      all_goals first | rfl | (exfalso; omega)
    · simp only [c_M_fastest hw, M_isPlace hw _ mp' (by omega), M_isTwo hw, mj_bi_some, i01]
      repeat' split
      all_goals first | rfl | (exfalso; omega)
end FA
