/-! The walk: breaks, fastest. -/
/-- no times for the first i edges -/
def Vi (f : mj_F) (ed : Nat → Nat) (st i : Nat) : Prop := ∀ D, Cl (i + 1) D → ¬ (Zr (i + 1) D ∧ PR f ed st D i)
theorem Vi_up {f : mj_F} {ed : Nat → Nat} {st i j : Nat} (h : i ≤ j) (v : Vi f ed st i) : Vi f ed st j := fun D hd ⟨z, p⟩ => v D (Cl_sub (by omega) hd) ⟨fun k hk => z k (by omega), PR_dn j i h p⟩
theorem W_fl {f : mj_F} {ed : Nat → Nat} {st N i : Nat} {q : Int × Mt} (h : WI f ed st N i q) : (q.1 = 0 ∨ q.1 = 1) ∧ (q.1 = 1 ↔ Vi f ed st i) := by
  obtain ⟨K, s, β, ow, hz, hs0, hw, hsb, hK⟩ := h
  rcases hw with ⟨a1, a2⟩ | ⟨a1, a2, T, a3, a4⟩
  · exact ⟨Or.inr a1, fun _ D hd hp => a2 D hd ((hK D hd).2 hp.2), fun _ => a1⟩
  · refine ⟨Or.inl a1, fun q => by rw [a1] at q; exact absurd q (by decide), fun v => ?_⟩
    have := (hK _ a3.1).1 a3.2.1
    exact (v _ a3.1 ⟨PR_Zr a3.1 this, this⟩).elim
theorem T_fl {f : mj_F} {ed : Nat → Nat} {st i : Nat} {r : Int × Mt} (h : TR f ed st i r) : (r.1 = 0 ∨ r.1 = 1) ∧ (r.1 = 1 ↔ Vi f ed st i) := by
  rcases h with ⟨a, b⟩ | ⟨a, K, b, e, _⟩
  · exact ⟨Or.inr a, fun _ => b, fun _ => a⟩
  · refine ⟨Or.inl a, fun q => by rw [a] at q; exact absurd q (by decide), fun v => ?_⟩
    exact (v _ e.1 ((b _ e.1).1 e.2.1)).elim
/-- the walk behind i edges -/
def qW (f : mj_F) (p N st : Nat) (ed : Nat → Nat) : Nat → Int × Mt
  | 0 => zkl f p N st (0, fun _ _ => 1)
  | i + 1 => wgo f p N (ed i) (pla f ed st i) (pla f ed st (i + 1)) (qW f p N st ed i)
theorem sL_lN1 {f : mj_F} {p n N l : Nat} (hn : n ≤ 5) (hN : n ≤ N) (s : sL f p n l) : lN1 f p N l := by
  have h := sL_lOK hn s
  obtain ⟨m, m6, m1, m2, m3, m4⟩ := s
  obtain ⟨m', _, _, m2', _, m4'⟩ := h
  have : m' = m := by rw [m2] at m2'; omega
  subst this
  refine ⟨m', m1, m2, m3, m4', fun k hk => ?_⟩
  have a2 : (f 225 (6 * l + k)).toNat + 1 < n := (m4 k hk).2.1
  omega
theorem qW_WI {sw : Bool} {f : mj_F} {c np ne st L : Nat} {ed : Nat → Nat} (ra : RA sw f c np ne st) (hnp : 0 < np) (hc : chn f ne st L ed) (hL : L ≤ 59) : ∀ i, i ≤ L → WI f ed st (c + 2) i (qW f (pl sw) (c + 2) st ed i) := by
  have hc4 := ra.1.1
  have hst : st < np := by have := ra.1.2.2.2.2.1; omega
  have hpl : ∀ i, i ≤ L → pla f ed st i < np := by
    intro i
    cases i with
    | zero => exact fun _ => hst
    | succ i =>
      intro hi
      obtain ⟨_, _, a, b, ha, hb, q1, q2, q3, q4⟩ := ra.2.2.2.1 (ed i) (hc i (by omega)).1
      show (f 229 (ed i)).toNat < np
      rw [q4, Int.toNat_natCast]
      exact hb
  intro i
  induction i with
  | zero => exact fun _ => WI_0 (by omega) (by omega) (sL_lN1 (by omega) (by omega) (ra.2.2.1 st hst))
  | succ i ih =>
    intro hi
    obtain ⟨se, ⟨m, m4, m1, m2, m3, m5⟩, _⟩ := ra.2.2.2.1 (ed i) (hc i (by omega)).1
    refine WI_S (by omega) (by omega) (sL_lN1 (by omega) (by omega) (ra.2.2.1 _ (hpl i (by omega)))) (sL_lN1 (by omega) (by omega) se) (sL_lN1 (by omega) (by omega) (ra.2.2.1 _ (hpl (i + 1) hi))) ⟨m, m1, m2, fun k hk => ?_⟩ (ih (by omega))
    have := m5 k hk
    exact ⟨(m3 k hk).1, (m3 k hk).2, by omega, this.2.2.1, this.2.2.2⟩
section WK
variable {sw : Bool} {w : mj_W}
theorem W_goAlong (hw : wk sw w) {f : mj_F} {c np ne st e : Nat} (ra : RA sw f c np ne st) (he : e < ne) {l1 l2 : Nat} (h1 : f (pl sw + 8) e = (l1 : Int)) (h2 : f (pl sw + 9) e = (l2 : Int)) (q : Int × Mt) : mj_call yW_goAlong w (zs 176 f ((c + 2 : Nat) : Int) q.1 q.2) [.inr (.inl 175), .inr (.inl (pl sw)), .inl (e : Int)] = some (w, zs 176 f ((c + 2 : Nat) : Int) (wgo f (pl sw) (c + 2) e l1 l2 q).1 (wgo f (pl sw) (c + 2) e l1 l2 q).2, none) := by
  obtain ⟨⟨hc4, hn8, he16, _, _⟩, _, hL, hE, _, _⟩ := ra
  obtain ⟨se, ss, a, b, ha, hb, q1, q2, q3, q4⟩ := hE e he
  have e1 : l1 = a := by omega
  have e2 : l2 = b := by omega
  subst e1 e2
  have z8 : ∀ v C, zs 176 f ((c + 2 : Nat) : Int) v C (pl sw + 8) e = (l1 : Int) := fun v C => by rw [zs_p zn176 (pl_pn sw) (by omega)]; exact h1
  have z9 : ∀ v C, zs 176 f ((c + 2 : Nat) : Int) v C (pl sw + 9) e = (l2 : Int) := fun v C => by rw [zs_p zn176 (pl_pn sw) (by omega)]; exact h2
  rw [c_W_goAlong hw _ _ _ (pl_pn sw), Z_goUp hw zn176 f (by omega) (by omega), mj_bu_some, mj_gd_pos ⟨by omega, by omega⟩, Int.toNat_natCast, z8, X_stayRules hw, mj_bi_some, Z_keep hw zn176 (pl_pn sw) f (by omega) (by omega) (sL_okr (by omega) (hL l1 ha)).1 (q.1, zup (c + 2) q.2), mj_bu_some, X_edgeRules hw _ (by omega), mj_bi_some, Z_keep hw zn176 (pl_pn sw) f (by omega) (by omega) (sL_okr (by omega) se).1, mj_bu_some, Z_sets hw zn176 (pl_pn sw) f (by omega) (by omega) (sS_ok (by omega) ss).1, mj_bu_some, mj_gd_pos ⟨by omega, by omega⟩, z9, X_stayRules hw, mj_bi_some]
  have hk := Z_keep hw zn176 (pl_pn sw) f (show c + 2 ≤ 6 by omega) (show l2 < 24 by omega) (sL_okr (by omega) (hL l2 hb)).1 ((zkl f (pl sw) (c + 2) (8 + e) (zkl f (pl sw) (c + 2) l1 (q.1, zup (c + 2) q.2))).1, zae f (pl sw) (c + 2) e (zkl f (pl sw) (c + 2) (8 + e) (zkl f (pl sw) (c + 2) l1 (q.1, zup (c + 2) q.2))).2)
  refine (congrArg (fun z => mj_bu z _) hk).trans ?_
  rw [mj_bu_some]
  rfl
theorem wC2 {c : Nat} (h : c ≤ 4) : mj_w ((c : Int) + 2) = ((c + 2 : Nat) : Int) := by unfold mj_w; omega
/-- breakIn: the first edge at which nothing is left -/
theorem W_breakIn (hw : wk sw w) {f : mj_F} {c np ne st L r2 nr : Nat} {ed : Nat → Nat} (ra : RA sw f c np ne st) (hnp : 0 < np) (hc : chn f ne st L ed) (hL : L ≤ 59) (hr : w.1 r2 = (100, nr)) (hrn : L ≤ nr) (hr6 : r2 ≠ 176 ∧ r2 ≠ 177) (hed : ∀ i, i < L → f r2 i = (ed i : Int)) : ∃ (q : Int × Mt) (a : Int), mj_call yW_breakIn w f [.inr (.inl 175), .inr (.inl (pl sw)), .inr (.inl r2), .inl (L : Int)] = some (w, zs 176 f ((c + 2 : Nat) : Int) q.1 q.2, some (.inl a)) ∧ ((a = -2 ∧ q = qW f (pl sw) (c + 2) st ed L ∧ ∀ i, i ≤ L → ¬ Vi f ed st i) ∨ (∃ i, i < L ∧ a = (i : Int) ∧ (∀ j, j ≤ i → ¬ Vi f ed st j) ∧ Vi f ed st (i + 1)) ∨ (Vi f ed st 0 ∧ a = if L = 0 then -3 else 0)) := by
  have hW := qW_WI ra hnp hc hL
  have hc4 := ra.1.1
  have hp := pl_o sw
  have hst : st < np := by have := ra.1.2.2.2.2.1; omega
  have hn8 := ra.1.2.1
  have xc := ra.2.1.2.1
  have xs := ra.2.1.2.2.2.2.2.2.2.1
  have hs4 : ∀ v C, zs 176 f ((c + 2 : Nat) : Int) v C (pl sw) 4 = (st : Int) := fun v C => by rw [zs_o (by omega) (by omega)]; exact xs
  have hk0 := Z_keep hw zn176 (pl_pn sw) f (show c + 2 ≤ 6 by omega) (show st < 24 by omega) (sL_okr (by omega) (ra.2.2.1 st hst)).1 (0, fun _ _ => 1)
  have e0 : mj_call yW_breakIn w f [.inr (.inl 175), .inr (.inl (pl sw)), .inr (.inl r2), .inl (L : Int)] = if (qW f (pl sw) (c + 2) st ed 0).1 = 0 then mj_run yW_breakIn w (zs 176 f ((c + 2 : Nat) : Int) (qW f (pl sw) (c + 2) st ed 0).1 (qW f (pl sw) (c + 2) st ed 0).2) 52 [.inr (.inl 175), .inr (.inl (pl sw)), .inr (.inl r2), .inl (L : Int), .inl 0] [] else if ¬ (L : Int) = 0 then some (w, zs 176 f ((c + 2 : Nat) : Int) (qW f (pl sw) (c + 2) st ed 0).1 (qW f (pl sw) (c + 2) st ed 0).2, some (.inl 0)) else some (w, zs 176 f ((c + 2 : Nat) : Int) (qW f (pl sw) (c + 2) st ed 0).1 (qW f (pl sw) (c + 2) st ed 0).2, some (.inl (-3))) := by
    rw [c_W_breakIn hw _ _ r2 nr _ (pl_pn sw) hr, xc, wC2 hc4, Z_layZero hw zn176, mj_bu_some, hs4, X_stayRules hw, mj_bi_some]
    refine (congrArg (fun z => mj_bu z _) hk0).trans ?_
    rw [mj_bu_some, zs_v]
    rfl
  have w0 := W_fl (hW 0 (by omega))
  by_cases hv0 : Vi f ed st 0
  · have h1 := w0.2.2 hv0
    rw [if_neg (by rw [h1]; decide)] at e0
    by_cases hL0 : L = 0
    · rw [if_neg (by omega)] at e0
      exact ⟨_, _, e0, Or.inr (Or.inr ⟨hv0, by rw [if_pos hL0]⟩)⟩
    · rw [if_pos (by omega)] at e0
      exact ⟨_, _, e0, Or.inr (Or.inr ⟨hv0, by rw [if_neg hL0]⟩)⟩
  · have h1 : (qW f (pl sw) (c + 2) st ed 0).1 = 0 := by
      rcases w0.1 with h | h
      · exact h
      · exact absurd (w0.2.1 h) hv0
    rw [if_pos h1] at e0
    have stp : ∀ i, i < L → mj_run yW_breakIn w (zs 176 f ((c + 2 : Nat) : Int) (qW f (pl sw) (c + 2) st ed i).1 (qW f (pl sw) (c + 2) st ed i).2) 52 [.inr (.inl 175), .inr (.inl (pl sw)), .inr (.inl r2), .inl (L : Int), .inl (i : Int)] [] = if (qW f (pl sw) (c + 2) st ed (i + 1)).1 = 0 then mj_run yW_breakIn w (zs 176 f ((c + 2 : Nat) : Int) (qW f (pl sw) (c + 2) st ed (i + 1)).1 (qW f (pl sw) (c + 2) st ed (i + 1)).2) 52 [.inr (.inl 175), .inr (.inl (pl sw)), .inr (.inl r2), .inl (L : Int), .inl ((i + 1 : Nat) : Int)] [] else some (w, zs 176 f ((c + 2 : Nat) : Int) (qW f (pl sw) (c + 2) st ed (i + 1)).1 (qW f (pl sw) (c + 2) st ed (i + 1)).2, some (.inl (i : Int))) := by
      intro i hi
      obtain ⟨c1, c2⟩ := hc i hi
      obtain ⟨_, _, a, b, ha, hb, q1, q2, q3, q4⟩ := ra.2.2.2.1 (ed i) c1
      have g1 : f (pl sw + 8) (ed i) = (pla f ed st i : Int) := by rw [q1, ← q2]; exact c2
      have g2 : f (pl sw + 9) (ed i) = (pla f ed st (i + 1) : Int) := by
        show f (pl sw + 9) (ed i) = ((f 229 (ed i)).toNat : Int)
        rw [q3, q4, Int.toNat_natCast]
      rw [l_W_breakIn_52 hw _ _ r2 nr _ _ (pl_pn sw) hr, if_neg (by omega), mj_gd_pos ⟨by omega, by omega⟩, Int.toNat_natCast, zs_o hr6.1 hr6.2, hed i hi, W_goAlong hw ra c1 g1 g2, mj_bu_some, zs_v, wS (by omega)]
      rfl
    have key : ∀ m, m ≤ L → (∀ j, j ≤ m → ¬ Vi f ed st j) → mj_call yW_breakIn w f [.inr (.inl 175), .inr (.inl (pl sw)), .inr (.inl r2), .inl (L : Int)] = mj_run yW_breakIn w (zs 176 f ((c + 2 : Nat) : Int) (qW f (pl sw) (c + 2) st ed m).1 (qW f (pl sw) (c + 2) st ed m).2) 52 [.inr (.inl 175), .inr (.inl (pl sw)), .inr (.inl r2), .inl (L : Int), .inl (m : Int)] [] := by
      intro m
      induction m with
      | zero => exact fun _ _ => e0
      | succ m ih =>
        intro hm hj
        have wm := W_fl (hW (m + 1) hm)
        rw [ih (by omega) (fun j h => hj j (by omega)), stp m (by omega), if_pos]
        rcases wm.1 with h | h
        · exact h
        · exact absurd (wm.2.1 h) (hj (m + 1) (Nat.le_refl _))
    by_cases hex : ∃ i, i < L ∧ Vi f ed st (i + 1)
    · obtain ⟨i, ⟨hi, hv⟩, hmin⟩ : ∃ i, (i < L ∧ Vi f ed st (i + 1)) ∧ ∀ j, j < i → ¬ (j < L ∧ Vi f ed st (j + 1)) := by
        obtain ⟨k0, h0⟩ := hex
        induction k0 using Nat.strongRecOn with
        | ind k0 ih =>
          by_cases hh : ∃ j, j < k0 ∧ (j < L ∧ Vi f ed st (j + 1))
          · obtain ⟨j, hj, hj2⟩ := hh
            exact ih j hj hj2
          · exact ⟨k0, h0, fun j hj q => hh ⟨j, hj, q⟩⟩
      have hno : ∀ j, j ≤ i → ¬ Vi f ed st j := fun j hj => by
        cases j with
        | zero => exact hv0
        | succ j => exact fun q => hmin j (by omega) ⟨by omega, q⟩
      have e1 := (key i (by omega) hno).trans (stp i hi)
      rw [if_neg (by rw [(W_fl (hW (i + 1) (by omega))).2.2 hv]; decide)] at e1
      exact ⟨_, _, e1, Or.inr (Or.inl ⟨i, hi, rfl, hno, hv⟩)⟩
    · have hno : ∀ j, j ≤ L → ¬ Vi f ed st j := fun j hj => by
        cases j with
        | zero => exact hv0
        | succ j => exact fun q => hex ⟨j, by omega, q⟩
      have e1 := key L (Nat.le_refl L) hno
      rw [l_W_breakIn_52 hw _ _ r2 nr _ _ (pl_pn sw) hr, if_pos (Int.le_refl _)] at e1
      exact ⟨_, _, e1, Or.inl ⟨rfl, rfl, hno⟩⟩
/-- the reference's prefixes -/
theorem M_breaks_run (hw : wk sw w) {f : mj_F} {c np ne st N L nx d tp : Nat} {ed : Nat → Nat} (r : RX sw f c np ne st N L nx d tp ed) (hnp : 0 < np) : ∀ n, 1 ≤ n → n ≤ L + 1 → (∀ j, 1 ≤ j → j < n → ¬ Vi f ed st j) → ∀ G, Cor sw f G → ∃ G', mj_run yM_breaks w G 49 [.inr (.inl 223), .inl 1] [] = mj_run yM_breaks w G' 49 [.inr (.inl 223), .inl (n : Int)] [] ∧ Cor sw f G' := by
  intro n
  induction n with
  | zero => intro h; omega
  | succ n ih =>
    intro _ hn hj G hG
    by_cases hn0 : n = 0
    · subst hn0
      exact ⟨G, rfl, hG⟩
    · obtain ⟨G', e, hG'⟩ := ih (by omega) (by omega) (fun j h1 h2 => hj j h1 (by omega)) G hG
      have rG := RX_c hG' r
      obtain ⟨hL20, l1, l2, l3, l4, _⟩ := rG.2.2.2.1
      obtain ⟨G1, r', e1, t, o, _⟩ := M_lays hw rG.1 hnp (L := n) (fun i hi => l4 i (by omega)) (by omega) (k_234 hw) (by decide) (by decide) (show 105 + n ≤ 125 by omega) (by decide) (fun i hi => (l3 i (by omega)).2)
      have hpf : Pf G' f := ⟨(hG'.1 224 (cA_m (by omega))).symm, (hG'.1 225 (cA_m (by omega))).symm, (hG'.1 226 (cA_m (by omega))).symm, (hG'.1 227 (cA_m (by omega))).symm, (hG'.1 229 (cA_m (by omega))).symm, (hG'.1 230 (cA_m (by omega))).symm, (hG'.1 231 (cA_m (by omega))).symm, (hG'.1 232 (cA_m (by omega))).symm⟩
      have fl := T_fl (TR_c hpf t)
      have h0 : r'.1 = 0 := by
        rcases fl.1 with h | h
        · exact h
        · exact absurd (fl.2.1 h) (hj n (by omega) (by omega))
      have l2' : G' 234 (104 : Int).toNat = (L : Int) := l2
      refine ⟨rq G1 ((n + 1 : Nat) : Int) r'.1 r'.2, e.trans ?_, Cor_t hG' (Cor_t (Cor_a (fun a q h => o a q (by omega))) Cor_rq)⟩
      rw [l_M_breaks_49 hw, c_M_traced hw, mj_bi_some, l2', if_neg (by omega)]
      refine (congrArg (fun z => mj_bu z _) e1).trans ?_
      rw [mj_bu_some, rq_v, if_pos h0, wS (by omega)]
theorem ok_breaks (hw : wk sw w) {f : mj_F} (r : RR sw f) : Ok sw w f yX_breaks yM_breaks [] := by
  obtain ⟨c, np, ne, st, N, L, nx, d, tp, ed, r⟩ := r
  obtain ⟨⟨hc4, hn8, he16, _, _⟩, ⟨xl, xc, mc, xp, mp, xe, me, xs, ms⟩, hL, hE, h0, hg⟩ := r.1
  have xn := r.2.2.1.2.1
  have mn := r.2.2.1.2.2.1
  have hN := r.2.2.1.1
  have mc' : mj_u f 223 0 0 223 2 = (c : Int) := mc
  have mp' : mj_u f 223 0 0 223 3 = (np : Int) := mp
  have me' : mj_u f 223 0 0 223 4 = (ne : Int) := me
  have mn' : mj_u f 223 0 0 223 23 = (N : Int) := mn
  by_cases hnp : np = 0
  · refine Ok_i ⟨c, np, ne, st, N, L, nx, d, tp, ed, r⟩ (F1 := f) (F3 := mj_u f 223 0 0) (v := -1) ?_ (Cor_r _ _) ?_ Cor_0
    · rw [c_X_breaks hw, xp, if_neg (by omega)]
    · rw [c_M_breaks hw, mp', if_neg (by omega)]
  · obtain ⟨hL20, l1, l2, l3, l4, _⟩ := r.2.2.2.1
    have hnp0 : 0 < np := by omega
    have hnpi : ¬ (np : Int) = 0 := by omega
    obtain ⟨q, a, e1, ha⟩ := W_breakIn hw r.1 hnp0 l4 (by omega) (k_169 hw) hL20 (by decide) (fun i hi => (l3 i hi).1)
    have eX : mj_call yX_breaks w f [.inr (.inl 2)] = some (w, zs 176 f ((c + 2 : Nat) : Int) q.1 q.2, some (.inl a)) := by
      rw [c_X_breaks hw, xp, if_pos hnpi, l1, e1, mj_bi_some]
    have cF : Cor sw f (zs 176 f ((c + 2 : Nat) : Int) q.1 q.2) := Cor_zs (Or.inr (Or.inr (Or.inr rfl)))
    generalize zs 176 f ((c + 2 : Nat) : Int) q.1 q.2 = F at eX cF
    have c0 : Cor sw f (mj_u F 223 0 0) := Cor_t cF Cor_0
    have rF := RX_c c0 r
    obtain ⟨_, _, l2F, l3F, l4F, _⟩ := rF.2.2.2.1
    obtain ⟨G1, r', e2, t, o, _⟩ := M_lays hw rF.1 hnp0 (L := 0) (fun i hi => absurd hi (by omega)) (by omega) (k_234 hw) (by decide) (by decide) (show 105 + 0 ≤ 125 by omega) (by decide) (ed := ed) (fun i hi => absurd hi (by omega))
    have hpf : Pf (mj_u F 223 0 0) f := ⟨(c0.1 224 (cA_m (by omega))).symm, (c0.1 225 (cA_m (by omega))).symm, (c0.1 226 (cA_m (by omega))).symm, (c0.1 227 (cA_m (by omega))).symm, (c0.1 229 (cA_m (by omega))).symm, (c0.1 230 (cA_m (by omega))).symm, (c0.1 231 (cA_m (by omega))).symm, (c0.1 232 (cA_m (by omega))).symm⟩
    have fl := T_fl (TR_c hpf t)
    have cG : Cor sw f (rq G1 ((0 + 1 : Nat) : Int) r'.1 r'.2) := Cor_t c0 (Cor_t (Cor_a (fun a q h => o a q (by omega))) Cor_rq)
    have mpF : mj_u F 223 0 0 223 3 = (np : Int) := rF.1.2.1.2.2.2.2.1
    have l2G : rq G1 ((0 + 1 : Nat) : Int) r'.1 r'.2 234 (104 : Int).toNat = (L : Int) := (RX_c cG r).2.2.2.1.2.2.1
    have eM : mj_call yM_breaks w F [.inr (.inl 223)] = if ¬ (L : Int) = 0 then mj_run yM_breaks w (rq G1 ((0 + 1 : Nat) : Int) r'.1 r'.2) 49 [.inr (.inl 223), .inl 1] [] else if r'.1 = 0 then some (w, rq G1 ((0 + 1 : Nat) : Int) r'.1 r'.2, some (.inl (-2))) else some (w, rq G1 ((0 + 1 : Nat) : Int) r'.1 r'.2, some (.inl (-3))) := by
      rw [c_M_breaks hw, mpF, if_pos hnpi]
      refine (congrArg (fun z => mj_bu z _) e2).trans ?_
      rw [mj_bu_some, c_M_traced hw, mj_bi_some, l2G, rq_v]
    by_cases hL0 : L = 0
    · rw [if_neg (by omega)] at eM
      rcases ha with ⟨a1, a2, a3⟩ | ⟨i, hi, _⟩ | ⟨a1, a2⟩
      · rw [if_pos (by rcases fl.1 with h | h; exact h; exact absurd (fl.2.1 h) (a3 0 (by omega))), ← a1] at eM
        exact ⟨F, _, a, eX, eM, c, np, ne, st, N, L, nx, d, tp, ed, RX_c cG r⟩
      · omega
      · rw [if_pos hL0] at a2
        rw [if_neg (by rw [fl.2.2 a1]; decide), ← a2] at eM
        exact ⟨F, _, a, eX, eM, c, np, ne, st, N, L, nx, d, tp, ed, RX_c cG r⟩
    · rw [if_pos (by omega)] at eM
      -- the first prefix that has no times
      have fin : ∀ i, i < L → (∀ j, 1 ≤ j → j ≤ i → ¬ Vi f ed st j) → Vi f ed st (i + 1) → ∃ F3, mj_call yM_breaks w F [.inr (.inl 223)] = some (w, F3, some (.inl (i : Int))) ∧ RR sw F3 := by
        intro i hi hj hv
        obtain ⟨G', e3, cG'⟩ := M_breaks_run hw r hnp0 (i + 1) (by omega) (by omega) (fun j h1 h2 => hj j h1 (by omega)) _ cG
        have rG := RX_c cG' r
        obtain ⟨_, _, l2H, l3H, l4H, _⟩ := rG.2.2.2.1
        obtain ⟨G2, r2, e4, t2, o2, _⟩ := M_lays hw rG.1 hnp0 (L := i + 1) (fun k hk => l4H k (by omega)) (by omega) (k_234 hw) (by decide) (by decide) (show 105 + (i + 1) ≤ 125 by omega) (by decide) (fun k hk => (l3H k (by omega)).2)
        have hpf2 : Pf G' f := ⟨(cG'.1 224 (cA_m (by omega))).symm, (cG'.1 225 (cA_m (by omega))).symm, (cG'.1 226 (cA_m (by omega))).symm, (cG'.1 227 (cA_m (by omega))).symm, (cG'.1 229 (cA_m (by omega))).symm, (cG'.1 230 (cA_m (by omega))).symm, (cG'.1 231 (cA_m (by omega))).symm, (cG'.1 232 (cA_m (by omega))).symm⟩
        have fl2 := T_fl (TR_c hpf2 t2)
        have l2' : G' 234 (104 : Int).toNat = (L : Int) := l2H
        refine ⟨rq G2 ((i + 1 + 1 : Nat) : Int) r2.1 r2.2, (eM.trans e3).trans ?_, c, np, ne, st, N, L, nx, d, tp, ed, RX_c (Cor_t cG' (Cor_t (Cor_a (fun a q h => o2 a q (by omega))) Cor_rq)) r⟩
        rw [l_M_breaks_49 hw, c_M_traced hw, mj_bi_some, l2', if_neg (by omega)]
        refine (congrArg (fun z => mj_bu z _) e4).trans ?_
        rw [mj_bu_some, rq_v, if_neg (by rw [fl2.2.2 hv]; decide), wP (by omega)]
      rcases ha with ⟨a1, a2, a3⟩ | ⟨i, hi, a1, a2, a3⟩ | ⟨a1, a2⟩
      · obtain ⟨G', e3, cG'⟩ := M_breaks_run hw r hnp0 (L + 1) (by omega) (Nat.le_refl _) (fun j h1 h2 => a3 j (by omega)) _ cG
        have rG := RX_c cG' r
        have l2' : G' 234 (104 : Int).toNat = (L : Int) := rG.2.2.2.1.2.2.1
        refine ⟨F, G', a, eX, (eM.trans e3).trans ?_, c, np, ne, st, N, L, nx, d, tp, ed, rG⟩
        rw [l_M_breaks_49 hw, c_M_traced hw, mj_bi_some, l2', if_pos (by omega), a1]
      · obtain ⟨F3, m1, m2⟩ := fin i hi (fun j h1 h2 => a2 j h2) a3
        exact ⟨F, F3, a, eX, a1 ▸ m1, m2⟩
      · obtain ⟨F3, m1, m2⟩ := fin 0 (by omega) (fun j h1 h2 => absurd h1 (by omega)) (Vi_up (by omega) a1)
        rw [if_neg hL0] at a2
        exact ⟨F, F3, a, eX, a2 ▸ m1, m2⟩
end WK
