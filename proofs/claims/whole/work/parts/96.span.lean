/-! can, window, between. -/
theorem mj_bt_ref (w : mj_W) (f : mj_F) (a : Nat) (k : mj_F → Option mj_O) : mj_bt (some (w, f, some (.inr (.inl a)))) k = k f := rfl
/-- a span told, in the class, in the reference -/
def spC (lo hi more x : Int) : Int := if x = 0 then mj_w (more - mj_shr lo 1) else if x = 1 then mj_and lo 1 else if x = 2 then (if hi < 268435456 then mj_w (more + mj_shr hi 1) else 10000) else (if hi < 268435456 then mj_and hi 1 else 0)
def spR (lo hi more x : Int) : Int := if x = 0 then mj_w (more - mj_shr lo 1) else if x = 1 then mj_and lo 1 else if x = 2 then (if hi < 1000000 then mj_w (more + mj_shr hi 1) else 10000) else (if hi < 1000000 then mj_and hi 1 else 0)
theorem sp_eq {f : mj_F} {ed : Nat → Nat} {st L : Nat} {C : Mt} {r : Int × Mt} (h1 : TC f ed st L (0, C)) (h2 : TR f ed st L r) {i j : Nat} (hij : i ≤ j) (hj : j ≤ L) (more x : Int) : spC (C i j) (C j i) more x = spR (r.2 i j) (r.2 j i) more x := by
  have a := (TC_fin h1 h2 hij hj).1
  have b := TS_cell (TS_00 (TC_TR h1 h2) rfl) (show j < L + 1 by omega) (show i < L + 1 by omega)
  unfold spC spR
  rw [a]
  rcases b with ⟨b1, b2⟩ | ⟨b1, _, _, b2, b3⟩
  · rw [if_neg (show ¬ C j i < 268435456 by omega), if_neg (show ¬ C j i < 268435456 by omega), if_neg (show ¬ r.2 j i < 1000000 by omega), if_neg (show ¬ r.2 j i < 1000000 by omega)]
  · rw [if_pos b3, if_pos b3, if_pos b2, if_pos b2, b1]
theorem TR_c {f g : mj_F} (h : Pf f g) {ed : Nat → Nat} {st L : Nat} {r : Int × Mt} (t : TR f ed st L r) : TR g ed st L r := by
  rcases t with ⟨a, b⟩ | ⟨a, K, b, c⟩
  · exact Or.inl ⟨a, fun D hd => by rw [PR_c h]; exact b D hd⟩
  · exact Or.inr ⟨a, K, fun D hd => by rw [PR_c h]; exact b D hd, c⟩
section TW
variable {sw : Bool} {w : mj_W}
theorem T_span (hw : wk sw w) (F : mj_F) {i j : Nat} (hi : i < 21) (hj : j < 21) (more x : Int) (hx : 0 ≤ x ∧ x ≤ 3) : mj_call yT_span w F [.inr (.inl 170), .inl (i : Int), .inl (j : Int), .inl more, .inl x] = some (w, F, some (.inl (spC (gm 171 21 F i j) (gm 171 21 F j i) more x))) := by
  have e1 := ixw21 hi hj
  have e2 := ixw21 hj hi
  have g1 : (0 : Int) ≤ ((21 * i + j : Nat) : Int) ∧ ((21 * i + j : Nat) : Int) < ((441 : Nat) : Int) := ⟨by omega, by omega⟩
  have g2 : (0 : Int) ≤ ((21 * j + i : Nat) : Int) ∧ ((21 * j + i : Nat) : Int) < ((441 : Nat) : Int) := ⟨by omega, by omega⟩
  rw [c_T_span hw]
  simp only [e1.1, e2.1, mj_gd_pos g1, mj_gd_pos g2, Int.toNat_natCast, c_X_numberOf hw, c_X_reachedOf hw, mj_bi_some]
  unfold spC gm
  by_cases h0 : x = 0
  · rw [if_pos h0, if_pos h0]
  · rw [if_neg h0, if_neg h0]
    by_cases h1 : x = 1
    · rw [if_pos h1, if_pos h1]
    · rw [if_neg h1, if_neg h1]
      by_cases h2 : x = 2
      · rw [if_pos h2, if_pos h2]
        split <;> rfl
      · rw [if_neg h2, if_neg h2]
        split <;> rfl
theorem R_span (hw : wk sw w) (g : mj_F) (n v : Int) (A : Mt) {i j : Nat} (hi : i < 62) (hj : j < 62) (more x : Int) (hx : 0 ≤ x ∧ x ≤ 3) : mj_call yM_spanOf w (rq g n v A) [.inr (.inl 223), .inl (i : Int), .inl (j : Int), .inl more, .inl x] = some (w, rq g n v A, some (.inl (spR (A i j) (A j i) more x))) := by
  have ec : ∀ a b : Int, mj_w (a + b) = mj_w (b + a) := fun a b => by rw [Int.add_comm]
  rw [c_M_spanOf hw, R_get hw g n v A hj hi, mj_bi_some, R_get hw g n v A hi hj, mj_bi_some, mj_bi_some, M_numberOf hw, mj_bi_some, M_numberOf hw, mj_bi_some]
  unfold spR
  by_cases h0 : x = 0
  · rw [if_pos h0, if_neg (by omega), if_neg (fun q => q h0)]
  · rw [if_neg h0]
    by_cases h1 : x = 1
    · rw [if_pos h1, if_neg (by omega), if_pos h0]
    · rw [if_neg h1, if_pos (by omega)]
      by_cases h2 : x = 2
      · rw [if_pos h2, if_neg (fun q => q h2), ec]
        split <;> rfl
      · rw [if_neg h2, if_pos h2]
        split <;> rfl
/-- both sides' times, ready to be asked -/
theorem tm_both (hw : wk sw w) {f : mj_F} {c np ne st N L nx d tp : Nat} {ed : Nat → Nat} (r : RX sw f c np ne st N L nx d tp ed) (hnp : 0 < np) : ∃ (F1 G1 : mj_F) (r' : Int × Mt), mj_call yX_timesOfPath w f [.inr (.inl 2)] = some (w, F1, some (.inr (.inl 170))) ∧ RX sw F1 c np ne st N L nx d tp ed ∧ F1 170 4 = 0 ∧ mj_call yM_laysTrace w (mj_u F1 223 0 0) [.inr (.inl 223)] = some (w, rq G1 ((L + 1 : Nat) : Int) r'.1 r'.2, none) ∧ Cor sw (mj_u F1 223 0 0) (rq G1 ((L + 1 : Nat) : Int) r'.1 r'.2) ∧ TC F1 ed st L (1 - F1 170 6, gm 171 21 F1) ∧ TR F1 ed st L r' ∧ (F1 170 6 = 0 ∨ F1 170 6 = 1) ∧ (F1 170 6 = 0 ↔ ¬ r'.1 = 0) ∧ (r'.1 = 0 ∨ r'.1 = 1) ∧ (∀ a q, ¬ (170 ≤ a ∧ a ≤ 174) → F1 a q = f a q) ∧ ∀ i x, i < L → x < 4 → G1 257 (4 * i + x) = (sb F1 ed i).1 x ∧ G1 258 (4 * i + x) = (sb F1 ed i).2 x := by
  obtain ⟨F1, e1, r1, f4, o1⟩ := X_timesOfPath hw r hnp
  have r2 := RX_c (Cor_0 (f := F1)) r1
  obtain ⟨G1, r', e2, t2, c2, s2⟩ := M_laysTrace hw r2 hnp
  have hpf : Pf (mj_u F1 223 0 0) F1 := ⟨(funext fun q => (mu0a (by decide)).symm), (funext fun q => (mu0a (by decide)).symm), (funext fun q => (mu0a (by decide)).symm), (funext fun q => (mu0a (by decide)).symm), (funext fun q => (mu0a (by decide)).symm), (funext fun q => (mu0a (by decide)).symm), (funext fun q => (mu0a (by decide)).symm), (funext fun q => (mu0a (by decide)).symm)⟩
  obtain ⟨a1, a2, _⟩ := r1.2.2.2.1.2.2.2.2.2 f4
  have t3 : TR F1 ed st L r' := TR_c hpf t2
  have fl := (TS_01 (TC_TR a2 t3))
  have fl1 : 1 - F1 170 6 = r'.1 := fl.2.2
  refine ⟨F1, G1, r', e1, r1, f4, e2, c2, a2, t3, a1, ?_, fl.2.1, o1, fun i x hi hx => ?_⟩
  · rcases a1 with h | h
    · exact ⟨fun _ => by omega, fun _ => h⟩
    · exact ⟨fun q => by omega, fun q => absurd (show r'.1 = 0 by omega) q⟩
  · have := s2 i x hi hx
    rw [← sb_c hpf] at this
    exact this
theorem np_pos {f : mj_F} {c np ne st L : Nat} {ed : Nat → Nat} (ra : RA sw f c np ne st) (hc : chn f ne st L ed) (hL : 0 < L) : 0 < np := by
  obtain ⟨_, _, a, b, ha, _⟩ := ra.2.2.2.1 (ed 0) (hc 0 hL).1
  omega
theorem ok_can (hw : wk sw w) {f : mj_F} (r : RR sw f) : Ok sw w f yX_can yM_can [] := by
  obtain ⟨c, np, ne, st, N, L, nx, d, tp, ed, r⟩ := r
  obtain ⟨⟨hc4, hn8, he16, _, _⟩, ⟨xl, xc, mc, xp, mp, xe, me, xs, ms⟩, hL, hE, h0, hg⟩ := r.1
  have xn := r.2.2.1.2.1
  have mn := r.2.2.1.2.2.1
  have hN := r.2.2.1.1
  have mc' : mj_u f 223 0 0 223 2 = (c : Int) := mc
  have mp' : mj_u f 223 0 0 223 3 = (np : Int) := mp
  have me' : mj_u f 223 0 0 223 4 = (ne : Int) := me
  have mn' : mj_u f 223 0 0 223 23 = (N : Int) := mn
  by_cases hnp : np = 0
  · refine Ok_i ⟨c, np, ne, st, N, L, nx, d, tp, ed, r⟩ (F1 := f) (F3 := mj_u f 223 0 0) (v := -1) ?_ (Cor_r _ _) ?_ Cor_0
    · rw [c_X_can hw, xp, if_neg (by omega)]
    · rw [c_M_can hw, mp', if_neg (by omega)]
  · obtain ⟨F1, G1, r', e1, r1, f4, e2, c2, _, _, f01, ff, r01, o1, _⟩ := tm_both hw r (by omega)
    have mpF : mj_u F1 223 0 0 223 3 = (np : Int) := r1.1.2.1.2.2.2.2.1
    refine ⟨F1, _, F1 170 6, ?_, ?_, c, np, ne, st, N, L, nx, d, tp, ed, RX_c c2 (RX_c Cor_0 r1)⟩
    · rw [c_X_can hw, xp, if_pos (by omega), e1, mj_bt_ref]
      rcases f01 with h | h
      · rw [if_pos h, h]
      · rw [if_neg (by omega), h]
    · rw [c_M_can hw, mpF, if_pos (by omega), e2, mj_bu_some, rq_v]
      rcases f01 with h | h
      · rw [if_neg (ff.1 h), h]
      · rw [if_pos (by rcases r01 with h' | h'; exact h'; exact absurd (ff.2 (by omega)) (by omega)), h]
theorem ok_window (hw : wk sw w) {f : mj_F} (r : RR sw f) (x1 x2 : Int) : Ok sw w f yX_window yM_window [.inl x1, .inl x2] := by
  obtain ⟨c, np, ne, st, N, L, nx, d, tp, ed, r⟩ := r
  obtain ⟨⟨hc4, hn8, he16, _, _⟩, ⟨_, xc, mc, xp, mp, xe, me, xs, ms⟩, hL, hE, h0, hg⟩ := r.1
  have xn := r.2.2.1.2.1
  have mn := r.2.2.1.2.2.1
  have hN := r.2.2.1.1
  have mc' : mj_u f 223 0 0 223 2 = (c : Int) := mc
  have mp' : mj_u f 223 0 0 223 3 = (np : Int) := mp
  have me' : mj_u f 223 0 0 223 4 = (ne : Int) := me
  have mn' : mj_u f 223 0 0 223 23 = (N : Int) := mn
  by_cases hV : 0 ≤ x1 ∧ 0 ≤ x2 ∧ x2 ≤ 3
  · obtain ⟨i, rfl⟩ : ∃ i : Nat, x1 = (i : Int) := ⟨x1.toNat, by omega⟩
    obtain ⟨hL20, l1, l2, l3, l4, _⟩ := r.2.2.2.1
    have e104 : mj_u f 223 0 0 234 (104 : Int).toNat = (L : Int) := l2
    by_cases hi : i < L
    · obtain ⟨F1, G1, r', e1, r1, f4, e2, c2, tc, tr, f01, ff, r01, o1, _⟩ := tm_both hw r (np_pos r.1 l4 (by omega))
      have l2F : mj_u F1 223 0 0 234 (104 : Int).toNat = (L : Int) := r1.2.2.2.1.2.2.1
      have meX : mj_call yX_window w f [.inr (.inl 2), .inl (i : Int), .inl x2] = if ¬ (F1 170 6) = 0 then some (w, F1, some (.inl (spC (gm 171 21 F1 0 (i + 1)) (gm 171 21 F1 (i + 1) 0) 0 x2))) else some (w, F1, some (.inl (-3))) := by
        rw [c_X_window hw, if_neg (by omega), if_neg (by omega), if_pos (by omega), l1, if_pos (by omega), e1, mj_bt_ref, wS (by omega), show (0 : Int) = ((0 : Nat) : Int) from rfl, T_span hw F1 (i := 0) (j := i + 1) (by omega) (by omega) _ _ (by omega), mj_bi_some]
      have meM : mj_call yM_window w F1 [.inr (.inl 223), .inl (i : Int), .inl x2] = if r'.1 = 0 then some (w, rq G1 ((L + 1 : Nat) : Int) r'.1 r'.2, some (.inl (spR (r'.2 0 (i + 1)) (r'.2 (i + 1) 0) 0 x2))) else some (w, rq G1 ((L + 1 : Nat) : Int) r'.1 r'.2, some (.inl (-3))) := by
        have hs := R_span hw G1 ((L + 1 : Nat) : Int) r'.1 r'.2 (i := 0) (j := i + 1) (by omega) (by omega) 0 x2 (by omega)
        rw [c_M_window hw, if_neg (by omega), M_isIn hw, mj_bi_some, if_pos (by rw [if_pos (by omega)]; decide), c_M_traced hw, mj_bi_some, l2F, if_pos (by omega), e2, mj_bu_some, rq_v, wS (by omega)]
        by_cases hr : r'.1 = 0
        · rw [if_pos hr, if_pos hr]
          exact (congrArg (fun z => mj_bi z _) hs).trans (mj_bi_some ..)
        · rw [if_neg hr, if_neg hr]
      rcases f01 with h | h
      · rw [if_neg (fun q => q h)] at meX
        rw [if_neg (ff.1 h)] at meM
        exact ⟨F1, _, _, meX, meM, c, np, ne, st, N, L, nx, d, tp, ed, RX_c c2 (RX_c Cor_0 r1)⟩
      · have hr0 : r'.1 = 0 := by rcases r01 with h' | h'; exact h'; exact absurd (ff.2 (by omega)) (by omega)
        rw [h] at tc
        have es := sp_eq tc tr (show 0 ≤ i + 1 by omega) (show i + 1 ≤ L by omega) 0 x2
        rw [if_pos (by omega), es] at meX
        rw [if_pos hr0] at meM
        exact ⟨F1, _, _, meX, meM, c, np, ne, st, N, L, nx, d, tp, ed, RX_c c2 (RX_c Cor_0 r1)⟩
    · refine Ok_i ⟨c, np, ne, st, N, L, nx, d, tp, ed, r⟩ (F1 := f) (F3 := mj_u f 223 0 0) (v := -2) ?_ (Cor_r _ _) ?_ Cor_0
      · rw [c_X_window hw, if_neg (by omega), if_neg (by omega), if_pos (by omega), l1, if_neg (by omega)]
      · rw [c_M_window hw, if_neg (by omega), M_isIn hw, mj_bi_some, if_pos (by rw [if_pos (by omega)]; decide), c_M_traced hw, mj_bi_some, e104, if_neg (by omega)]
  · refine Ok_i ⟨c, np, ne, st, N, L, nx, d, tp, ed, r⟩ (F1 := f) (F3 := mj_u f 223 0 0) (v := -1) ?_ (Cor_r _ _) ?_ Cor_0
    · simp only [c_X_window hw, X_isTable hw, mj_bi_some, i01]
      repeat' split
      all_goals first | rfl | (exfalso; omega)
    · simp only [c_M_window hw, M_isIn hw, mj_bi_some, i01]
      repeat' split
      all_goals first | rfl | (exfalso; omega)
theorem ok_between (hw : wk sw w) {f : mj_F} (r : RR sw f) (x1 x2 x3 : Int) : Ok sw w f yX_between yM_between [.inl x1, .inl x2, .inl x3] := by
  obtain ⟨c, np, ne, st, N, L, nx, d, tp, ed, r⟩ := r
  obtain ⟨⟨hc4, hn8, he16, _, _⟩, ⟨_, xc, mc, xp, mp, xe, me, xs, ms⟩, hL, hE, h0, hg⟩ := r.1
  have xn := r.2.2.1.2.1
  have mn := r.2.2.1.2.2.1
  have hN := r.2.2.1.1
  have mc' : mj_u f 223 0 0 223 2 = (c : Int) := mc
  have mp' : mj_u f 223 0 0 223 3 = (np : Int) := mp
  have me' : mj_u f 223 0 0 223 4 = (ne : Int) := me
  have mn' : mj_u f 223 0 0 223 23 = (N : Int) := mn
  by_cases hV : 0 ≤ x1 ∧ x1 < x2 ∧ 0 ≤ x3 ∧ x3 ≤ 3
  · obtain ⟨i, rfl⟩ : ∃ i : Nat, x1 = (i : Int) := ⟨x1.toNat, by omega⟩
    obtain ⟨j, rfl⟩ : ∃ j : Nat, x2 = (j : Int) := ⟨x2.toNat, by omega⟩
    obtain ⟨hL20, l1, l2, l3, l4, _⟩ := r.2.2.2.1
    have e104 : mj_u f 223 0 0 234 (104 : Int).toNat = (L : Int) := l2
    by_cases hi : j < L
    · obtain ⟨F1, G1, r', e1, r1, f4, e2, c2, tc, tr, f01, ff, r01, o1, _⟩ := tm_both hw r (np_pos r.1 l4 (by omega))
      have l2F : mj_u F1 223 0 0 234 (104 : Int).toNat = (L : Int) := r1.2.2.2.1.2.2.1
      have meX : mj_call yX_between w f [.inr (.inl 2), .inl (i : Int), .inl (j : Int), .inl x3] = if ¬ (F1 170 6) = 0 then some (w, F1, some (.inl (spC (gm 171 21 F1 (i + 1) (j + 1)) (gm 171 21 F1 (j + 1) (i + 1)) 0 x3))) else some (w, F1, some (.inl (-3))) := by
        rw [c_X_between hw, if_neg (by omega), if_neg (by omega), if_neg (by omega), if_pos (by omega), l1, if_pos (by omega), e1, mj_bt_ref, wS (by omega), wS (by omega), T_span hw F1 (i := i + 1) (j := j + 1) (by omega) (by omega) _ _ (by omega), mj_bi_some]
      have meM : mj_call yM_between w F1 [.inr (.inl 223), .inl (i : Int), .inl (j : Int), .inl x3] = if r'.1 = 0 then some (w, rq G1 ((L + 1 : Nat) : Int) r'.1 r'.2, some (.inl (spR (r'.2 (i + 1) (j + 1)) (r'.2 (j + 1) (i + 1)) 0 x3))) else some (w, rq G1 ((L + 1 : Nat) : Int) r'.1 r'.2, some (.inl (-3))) := by
        have hs := R_span hw G1 ((L + 1 : Nat) : Int) r'.1 r'.2 (i := i + 1) (j := j + 1) (by omega) (by omega) 0 x3 (by omega)
        rw [c_M_between hw, if_neg (by omega), if_neg (by omega), M_isIn hw, mj_bi_some, if_pos (by rw [if_pos (by omega)]; decide), c_M_traced hw, mj_bi_some, l2F, if_pos (by omega), e2, mj_bu_some, rq_v, wS (by omega), wS (by omega)]
        by_cases hr : r'.1 = 0
        · rw [if_pos hr, if_pos hr, hs, mj_bi_some]
        · rw [if_neg hr, if_neg hr]
      rcases f01 with h | h
      · rw [if_neg (fun q => q h)] at meX
        rw [if_neg (ff.1 h)] at meM
        exact ⟨F1, _, _, meX, meM, c, np, ne, st, N, L, nx, d, tp, ed, RX_c c2 (RX_c Cor_0 r1)⟩
      · have hr0 : r'.1 = 0 := by rcases r01 with h' | h'; exact h'; exact absurd (ff.2 (by omega)) (by omega)
        rw [h] at tc
        have es := sp_eq tc tr (show i + 1 ≤ j + 1 by omega) (show j + 1 ≤ L by omega) 0 x3
        rw [if_pos (by omega), es] at meX
        rw [if_pos hr0] at meM
        exact ⟨F1, _, _, meX, meM, c, np, ne, st, N, L, nx, d, tp, ed, RX_c c2 (RX_c Cor_0 r1)⟩
    · refine Ok_i ⟨c, np, ne, st, N, L, nx, d, tp, ed, r⟩ (F1 := f) (F3 := mj_u f 223 0 0) (v := -2) ?_ (Cor_r _ _) ?_ Cor_0
      · rw [c_X_between hw, if_neg (by omega), if_neg (by omega), if_neg (by omega), if_pos (by omega), l1, if_neg (by omega)]
      · rw [c_M_between hw, if_neg (by omega), if_neg (by omega), M_isIn hw, mj_bi_some, if_pos (by rw [if_pos (by omega)]; decide), c_M_traced hw, mj_bi_some, e104, if_neg (by omega)]
  · refine Ok_i ⟨c, np, ne, st, N, L, nx, d, tp, ed, r⟩ (F1 := f) (F3 := mj_u f 223 0 0) (v := -1) ?_ (Cor_r _ _) ?_ Cor_0
    · simp only [c_X_between hw, X_isTable hw, mj_bi_some, i01]
      repeat' split
      all_goals first | rfl | (exfalso; omega)
    · simp only [c_M_between hw, M_isIn hw, mj_bi_some, i01]
      repeat' split
      all_goals first | rfl | (exfalso; omega)
end TW
