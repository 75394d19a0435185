/-! value, moment. -/
theorem sbm_x {f : mj_F} {e mo x : Nat} {z : (Nat → Int) × (Nat → Int)} : ∀ m, (∀ k, k < m → 0 ≤ f 231 (4 * e + k) ∧ 0 ≤ f 232 (4 * e + k)) → (∀ k k', k < k' → k' < m → f 231 (4 * e + k) ≠ f 231 (4 * e + k')) → (sbm f e mo m z).1 x = (if hsB f e m (x : Int) = true then (mo : Int) else z.1 x) ∧ (sbm f e mo m z).2 x = (if hsB f e m (x : Int) = true then nsN f e (x : Int) m else z.2 x) := by
  intro m
  induction m with
  | zero => exact fun _ _ => ⟨rfl, rfl⟩
  | succ m ih =>
    intro h1 h2
    obtain ⟨i1, i2⟩ := ih (fun k hk => h1 k (by omega)) (fun k k' a b => h2 k k' a (by omega))
    have hm := h1 m (by omega)
    have hs : hsB f e (m + 1) (x : Int) = (hsB f e m (x : Int) || decide (f 231 (4 * e + m) = (x : Int))) := rfl
    have hn : nsN f e (x : Int) (m + 1) = if nsN f e (x : Int) m = -1 then (if f 231 (4 * e + m) = (x : Int) then f 232 (4 * e + m) else -1) else nsN f e (x : Int) m := rfl
    show (if x = (f 231 (4 * e + m)).toNat then (mo : Int) else (sbm f e mo m z).1 x) = _ ∧ (if x = (f 231 (4 * e + m)).toNat then f 232 (4 * e + m) else (sbm f e mo m z).2 x) = _
    by_cases hx : f 231 (4 * e + m) = (x : Int)
    · have hno : ∀ k, k < m → ¬ f 231 (4 * e + k) = (x : Int) := fun k hk q => h2 k m hk (by omega) (q.trans hx.symm)
      have hxx : x = (f 231 (4 * e + m)).toNat := by omega
      rw [if_pos hxx, if_pos hxx, hs, decide_eq_true hx, Bool.or_true, if_pos rfl, if_pos rfl, hn, if_pos (nsN_no m hno), if_pos hx]
      exact ⟨rfl, rfl⟩
    · have hxx : ¬ x = (f 231 (4 * e + m)).toNat := by omega
      rw [if_neg hxx, if_neg hxx, hs, decide_eq_false hx, Bool.or_false, i1, i2]
      refine ⟨rfl, ?_⟩
      by_cases hb : hsB f e m (x : Int) = true
      · rw [if_pos hb, if_pos hb, hn]
        have hne : ¬ nsN f e (x : Int) m = -1 := by
          obtain ⟨k0, hk0, hd0⟩ := any_iff.mp hb
          have hex : ∃ k, k < m ∧ f 231 (4 * e + k) = (x : Int) := ⟨k0, hk0, of_decide_eq_true hd0⟩
          obtain ⟨k, hk, hkx⟩ := hex
          have hmin : ∀ j, j < k → ¬ f 231 (4 * e + j) = (x : Int) := fun j hj q => h2 j k hj (by omega) (q.trans hkx.symm)
          rw [nsN_at hkx (h1 k (by omega)).2 hmin m hk]
          have := (h1 k (by omega)).2
          omega
        rw [if_neg hne]
      · rw [if_neg hb, if_neg hb]
/-- the latest edge ahead of the i-th that sets a clock -/
def stA (f : mj_F) (ed : Nat → Nat) (x : Int) : Nat → Int
  | 0 => -1
  | i + 1 => if hsB f (ed i) (f 230 (ed i)).toNat x = true then (i : Int) else stA f ed x i
theorem stA_r (f : mj_F) (ed : Nat → Nat) (x : Int) (i : Nat) : -1 ≤ stA f ed x i ∧ stA f ed x i < i := by
  induction i with
  | zero =>
    show -1 ≤ (-1 : Int) ∧ (-1 : Int) < ((0 : Nat) : Int)
    omega
  | succ i ih =>
    show -1 ≤ (if hsB f (ed i) (f 230 (ed i)).toNat x = true then (i : Int) else stA f ed x i) ∧ (if hsB f (ed i) (f 230 (ed i)).toNat x = true then (i : Int) else stA f ed x i) < ((i + 1 : Nat) : Int)
    split <;> omega
theorem sb_st {f : mj_F} {ed : Nat → Nat} {x : Nat} : ∀ i, (∀ j, j < i → (∀ k, k < (f 230 (ed j)).toNat → 0 ≤ f 231 (4 * ed j + k) ∧ 0 ≤ f 232 (4 * ed j + k)) ∧ (∀ k k', k < k' → k' < (f 230 (ed j)).toNat → f 231 (4 * ed j + k) ≠ f 231 (4 * ed j + k'))) → (sb f ed i).1 x = stA f ed (x : Int) i + 1 ∧ (sb f ed i).2 x = (if 0 ≤ stA f ed (x : Int) i then nsN f (ed (stA f ed (x : Int) i).toNat) (x : Int) (f 230 (ed (stA f ed (x : Int) i).toNat)).toNat else 0) := by
  intro i
  induction i with
  | zero => exact fun _ => ⟨rfl, rfl⟩
  | succ i ih =>
    intro h
    obtain ⟨i1, i2⟩ := ih (fun j hj => h j (by omega))
    obtain ⟨h1, h2⟩ := h i (by omega)
    obtain ⟨s1, s2⟩ := sbm_x (f := f) (e := ed i) (mo := i + 1) (x := x) (z := sb f ed i) _ h1 h2
    have es : sb f ed (i + 1) = sbm f (ed i) (i + 1) (f 230 (ed i)).toNat (sb f ed i) := rfl
    have et : stA f ed (x : Int) (i + 1) = if hsB f (ed i) (f 230 (ed i)).toNat (x : Int) = true then (i : Int) else stA f ed (x : Int) i := rfl
    rw [es, s1, s2, et]
    by_cases hb : hsB f (ed i) (f 230 (ed i)).toNat (x : Int) = true
    · rw [if_pos hb, if_pos hb, if_pos hb, if_pos (by omega), Int.toNat_natCast]
      exact ⟨by omega, rfl⟩
    · rw [if_neg hb, if_neg hb, if_neg hb]
      exact ⟨i1, i2⟩
theorem w240 {i x : Nat} (hi : i < 20) (hx : x < 4) : mj_w (mj_w (4 * (i : Int)) + (x : Int)) = ((4 * i + x : Nat) : Int) := by unfold mj_w; omega
theorem wB {i : Int} (h : -1 ≤ i ∧ i < 1000) : mj_w (i + 1) = i + 1 := by unfold mj_w; omega
theorem bm21 {n : Nat} (h : n ≤ 21) : bm 102 n ≤ 2244 ∧ 102 ≤ bm 102 n ∧ bm (bm 102 n + 1) n ≤ 1000000 := by
  have h1 : bm 102 n ≤ 2244 := by
    have := bm_le (M := 102) (by decide) h
    have e : bm 102 21 = 2244 := by decide
    omega
  have h2 := bm_big (M := 102) (by decide) n
  refine ⟨h1, h2, ?_⟩
  have h3 := bm_le (M := bm 102 n + 1) (by omega) h
  have e : bm (bm 102 n + 1) 21 = 22 * (bm 102 n + 1) := by
    unfold bm
    show ((21 : Nat) + 1 : Int) * _ = _
    rfl
  omega
section VA
variable {sw : Bool} {w : mj_W}
theorem P_setterAhead (hw : wk sw w) {f : mj_F} {c np ne st L : Nat} {ed : Nat → Nat} (ra : RA sw f c np ne st) (hL : L ≤ 20) (h169 : ∀ i, i < L → f 169 i = (ed i : Int)) (hc : chn f ne st L ed) (x2 x : Int) : ∀ i, i ≤ L → mj_run yP_setterAhead w f 5 [.inr (.inl 168), .inr (.inl (pl sw)), .inl x2, .inl x, .inl ((i : Int) - 1)] [] = some (w, f, some (.inl (stA f ed x i))) := by
  have he16 := ra.1.2.2.1
  intro i
  induction i with
  | zero =>
    intro _
    rw [l_P_setterAhead_5 hw _ _ _ _ _ (pl_pn sw), if_pos (by omega)]
    rfl
  | succ i ih =>
    intro hi
    have hei := (hc i (by omega)).1
    obtain ⟨a1, a2, _⟩ := L_numberSet hw (pl_pn sw) f (show ed i < 16 by omega) (ra.2.2.2.1 (ed i) hei).2.1 x
    have en : (((i + 1 : Nat) : Int) - 1).toNat = i := by omega
    have et : stA f ed x (i + 1) = if hsB f (ed i) (f 230 (ed i)).toNat x = true then (i : Int) else stA f ed x i := rfl
    rw [l_P_setterAhead_5 hw _ _ _ _ _ (pl_pn sw), if_neg (by omega), mj_gd_pos ⟨by omega, by omega⟩, en, h169 i (by omega), a1, mj_bi_some, wM (by omega), et]
    by_cases hb : hsB f (ed i) (f 230 (ed i)).toNat x = true
    · rw [if_neg (fun q => by have := a2.1 q; rw [hb] at this; cases this), if_pos hb, show ((i + 1 : Nat) : Int) - 1 = (i : Int) by omega]
    · rw [if_pos (a2.2 (Bool.eq_false_iff.mpr hb)), if_neg hb]
      exact ih (by omega)
theorem ok_value (hw : wk sw w) {f : mj_F} (r : RR sw f) (x1 x2 x3 : Int) : Ok sw w f yX_value yM_value [.inl x1, .inl x2, .inl x3] := by
  obtain ⟨c, np, ne, st, N, L, nx, d, tp, ed, r⟩ := r
  obtain ⟨⟨hc4, hn8, he16, _, _⟩, ⟨_, xc, mc, xp, mp, xe, me, xs, ms⟩, hL, hE, h0, hg⟩ := r.1
  have xn := r.2.2.1.2.1
  have mn := r.2.2.1.2.2.1
  have hN := r.2.2.1.1
  have mc' : mj_u f 223 0 0 223 2 = (c : Int) := mc
  have mp' : mj_u f 223 0 0 223 3 = (np : Int) := mp
  have me' : mj_u f 223 0 0 223 4 = (ne : Int) := me
  have mn' : mj_u f 223 0 0 223 23 = (N : Int) := mn
  by_cases hV : 0 ≤ x1 ∧ (0 ≤ x2 ∧ x2 < (c : Int)) ∧ 0 ≤ x3 ∧ x3 ≤ 3
  · obtain ⟨i, rfl⟩ : ∃ i : Nat, x1 = (i : Int) := ⟨x1.toNat, by omega⟩
    obtain ⟨x, rfl⟩ : ∃ x : Nat, x2 = (x : Int) := ⟨x2.toNat, by omega⟩
    obtain ⟨hL20, l1, l2, l3, l4, _⟩ := r.2.2.2.1
    have e104 : mj_u f 223 0 0 234 (104 : Int).toNat = (L : Int) := l2
    by_cases hi : i < L
    · obtain ⟨F1, G1, r', e1, r1, f4, e2, c2, tc, tr, f01, ff, r01, o1, sv⟩ := tm_both hw r (np_pos r.1 l4 (by omega))
      obtain ⟨_, l1F, l2F, l3F, l4F, _⟩ := r1.2.2.2.1
      have mcF : mj_u F1 223 0 0 223 2 = (c : Int) := r1.1.2.1.2.2.1
      have l2F' : mj_u F1 223 0 0 234 (104 : Int).toNat = (L : Int) := l2F
      have hun := r1.1.1.2.2.2.2.2
      have hsb := sb_st (f := F1) (ed := ed) (x := x) i (fun j hj => by
        obtain ⟨_, ⟨m, m4, m1, m2, m3, m5⟩, _⟩ := r1.1.2.2.2.1 (ed j) (l4F j (by omega)).1
        rw [m2, Int.toNat_natCast]
        refine ⟨fun k hk => ⟨(m5 k hk).1, (m5 k hk).2.2.1⟩, fun k k' h1 h2 => hun (ed j) (l4F j (by omega)).1 k k' h1 (by rw [m2]; omega)⟩)
      obtain ⟨sv1, sv2⟩ := sv i x hi (by omega)
      rw [hsb.1] at sv1
      rw [hsb.2] at sv2
      have sr := stA_r F1 ed (x : Int) i
      obtain ⟨k, hk⟩ : ∃ k : Nat, stA F1 ed (x : Int) i + 1 = (k : Int) := ⟨(stA F1 ed (x : Int) i + 1).toNat, by omega⟩
      obtain ⟨nm, hnm⟩ : ∃ nm : Int, nm = if 0 ≤ stA F1 ed (x : Int) i then nsN F1 (ed (stA F1 ed (x : Int) i).toNat) (x : Int) (F1 230 (ed (stA F1 ed (x : Int) i).toNat)).toNat else 0 := ⟨_, rfl⟩
      rw [← hnm] at sv2
      rw [hk] at sv1
      have ePs : mj_call yP_setterAhead w F1 [.inr (.inl 168), .inr (.inl (pl sw)), .inl (i : Int), .inl (x : Int)] = some (w, F1, some (.inl (stA F1 ed (x : Int) i))) := by
        rw [c_P_setterAhead hw _ _ _ _ (pl_pn sw), wM0 (by omega)]
        exact P_setterAhead hw r1.1 hL20 (fun i hi => (l3F i hi).1) l4F _ _ i (by omega)
      have meX : mj_call yX_value w f [.inr (.inl 2), .inl (i : Int), .inl (x : Int), .inl x3] = if ¬ (F1 170 6) = 0 then some (w, F1, some (.inl (spC (gm 171 21 F1 k (i + 1)) (gm 171 21 F1 (i + 1) k) nm x3))) else some (w, F1, some (.inl (-3))) := by
        have hsp := T_span hw F1 (i := k) (j := i + 1) (by omega) (by omega) nm x3 (by omega)
        rw [c_X_value hw, if_neg (by omega), X_isClock hw f xc, mj_bi_some]
        simp only [i01]
        rw [if_neg (by omega), if_neg (by omega), if_pos (by omega), l1, if_pos (by omega), e1, mj_bt_ref, ePs, mj_bi_some, wB (by omega), hk, wS (by omega)]
        by_cases h6 : F1 170 6 = 0
        · rw [if_neg (fun q => q h6), if_neg (fun q => q h6)]
        · rw [if_pos h6, if_pos h6]
          by_cases hst : 0 ≤ stA F1 ed (x : Int) i
          · have hj : (stA F1 ed (x : Int) i).toNat < L := by omega
            obtain ⟨a1, _, _⟩ := L_numberSet hw (pl_pn sw) F1 (show ed (stA F1 ed (x : Int) i).toNat < 16 by have := (l4F _ hj).1; omega) (r1.1.2.2.2.1 _ (l4F _ hj).1).2.1 (x : Int)
            rw [if_pos hst] at hnm
            rw [if_pos hst, mj_gd_pos ⟨hst, by omega⟩, (l3F _ hj).1, a1, mj_bi_some, ← hnm, hsp, mj_bi_some]
          · rw [if_neg hst] at hnm
            rw [if_neg hst, ← hnm, hsp, mj_bi_some]
      have meM : mj_call yM_value w F1 [.inr (.inl 223), .inl (i : Int), .inl (x : Int), .inl x3] = if r'.1 = 0 then some (w, rq G1 ((L + 1 : Nat) : Int) r'.1 r'.2, some (.inl (spR (r'.2 k (i + 1)) (r'.2 (i + 1) k) nm x3))) else some (w, rq G1 ((L + 1 : Nat) : Int) r'.1 r'.2, some (.inl (-3))) := by
        have hs := R_span hw G1 ((L + 1 : Nat) : Int) r'.1 r'.2 (i := k) (j := i + 1) (by omega) (by omega) nm x3 (by omega)
        have gv : (0 : Int) ≤ ((4 * i + x : Nat) : Int) ∧ ((4 * i + x : Nat) : Int) < ((240 : Nat) : Int) := ⟨by omega, by omega⟩
        rw [c_M_value hw, if_neg (by omega), M_isClock hw _ mcF (by omega), mj_bi_some]
        simp only [i01]
        rw [if_neg (by omega), M_isIn hw, mj_bi_some, if_pos (by rw [if_pos (by omega)]; decide), c_M_traced hw, mj_bi_some, l2F', if_pos (by omega), e2, mj_bu_some, rq_v, w240 (by omega) (by omega), mj_gd_pos gv, mj_gd_pos gv, Int.toNat_natCast, rq_o (by decide) (by decide), rq_o (by decide) (by decide), sv1, sv2, wS (by omega)]
        by_cases hr : r'.1 = 0
        · rw [if_pos hr, if_pos hr, hs, mj_bi_some]
        · rw [if_neg hr, if_neg hr]
      rcases f01 with h | h
      · rw [if_neg (fun q => q h)] at meX
        rw [if_neg (ff.1 h)] at meM
        exact ⟨F1, _, _, meX, meM, c, np, ne, st, N, L, nx, d, tp, ed, RX_c c2 (RX_c Cor_0 r1)⟩
      · have hr0 : r'.1 = 0 := by rcases r01 with h' | h'; exact h'; exact absurd (ff.2 (by omega)) (by omega)
        rw [h] at tc
        have es := sp_eq tc tr (show k ≤ i + 1 by omega) (show i + 1 ≤ L by omega) nm x3
        rw [if_pos (by omega), es] at meX
        rw [if_pos hr0] at meM
        exact ⟨F1, _, _, meX, meM, c, np, ne, st, N, L, nx, d, tp, ed, RX_c c2 (RX_c Cor_0 r1)⟩
    · refine Ok_i ⟨c, np, ne, st, N, L, nx, d, tp, ed, r⟩ (F1 := f) (F3 := mj_u f 223 0 0) (v := -2) ?_ (Cor_r _ _) ?_ Cor_0
      · rw [c_X_value hw, if_neg (by omega), X_isClock hw f xc, mj_bi_some]
        simp only [i01]
        rw [if_neg (by omega), if_neg (by omega), if_pos (by omega), l1, if_neg (by omega)]
      · rw [c_M_value hw, if_neg (by omega), M_isClock hw _ mc' (by omega), mj_bi_some]
        simp only [i01]
        rw [if_neg (by omega), M_isIn hw, mj_bi_some, if_pos (by rw [if_pos (by omega)]; decide), c_M_traced hw, mj_bi_some, e104, if_neg (by omega)]
  · refine Ok_i ⟨c, np, ne, st, N, L, nx, d, tp, ed, r⟩ (F1 := f) (F3 := mj_u f 223 0 0) (v := -1) ?_ (Cor_r _ _) ?_ Cor_0
    · simp only [c_X_value hw, X_isClock hw f xc, mj_bi_some, i01]
      repeat' split
      all_goals first | rfl | (exfalso; omega)
    · simp only [c_M_value hw, M_isClock hw _ mc' (by omega), M_isIn hw, mj_bi_some, i01]
      repeat' split
      all_goals first | rfl | (exfalso; omega)
theorem T_buildWhole (hw : wk sw w) (F : mj_F) {L : Nat} (hL : L ≤ 20) (h1 : F 168 1 = (L : Int)) (h6 : F 170 6 = 1) : mj_call yT_buildWhole w F [.inr (.inl 170), .inr (.inl 168)] = some (w, mj_u (mj_u (sm 172 21 F (whS F L).2) 170 7 (whS F L).1) 170 5 0, none) := by
  have hst : ∀ k, k ≤ 441 → mj_run yT_buildWhole w F 2 [.inr (.inl 170), .inr (.inl 168), .inl 0] [] = mj_run yT_buildWhole w (fun b q => if b = 172 ∧ q < k then whB (F 171 q) else F b q) 2 [.inr (.inl 170), .inr (.inl 168), .inl (k : Int)] [] := by
    intro k
    induction k with
    | zero =>
      intro _
      have : (fun b q => if b = 172 ∧ q < 0 then whB (F 171 q) else F b q : mj_F) = F := by
        funext b q
        rw [if_neg (by omega)]
      rw [this]
      rfl
    | succ k ih =>
      intro hk
      rw [ih (by omega), l_T_buildWhole_2 hw, if_neg (by omega), mj_gd_pos ⟨by omega, by omega⟩, Int.toNat_natCast, X_wholeBound hw, mj_bi_some, mj_gd_pos ⟨by omega, by omega⟩, wS (by omega)]
      have e : mj_u (fun b q => if b = 172 ∧ q < k then whB (F 171 q) else F b q) 172 k (whB ((fun b q => if b = 172 ∧ q < k then whB (F 171 q) else F b q : mj_F) 171 k)) = (fun b q => if b = 172 ∧ q < k + 1 then whB (F 171 q) else F b q) := by
        funext b q
        unfold mj_u
        by_cases hb : b = 172 ∧ q = k
        · rw [if_pos hb, if_pos ⟨hb.1, by omega⟩, hb.2]
          show whB (if 171 = 172 ∧ k < k then whB (F 171 k) else F 171 k) = _
          rw [if_neg (by omega)]
        · rw [if_neg hb]
          show (if b = 172 ∧ q < k then whB (F 171 q) else F b q) = _
          by_cases hb2 : b = 172 ∧ q < k
          · rw [if_pos hb2, if_pos ⟨hb2.1, by omega⟩]
          · rw [if_neg hb2, if_neg (by omega)]
      rw [e]
  have eM : (fun b q => if b = 172 ∧ q < 441 then whB (F 171 q) else F b q : mj_F) = sm 172 21 F (fun i j => whB (gm 171 21 F i j)) := by
    funext b q
    unfold sm
    by_cases hb : b = 172 ∧ q < 441
    · rw [if_pos hb, if_pos hb]
      show whB (F 171 q) = whB (F 171 (21 * (q / 21) + q % 21))
      rw [Nat.div_add_mod]
    · rw [if_neg hb, if_neg hb]
  rw [c_T_buildWhole hw, hst 441 (Nat.le_refl _), eM, show ((441 : Nat) : Int) = ((441 : Nat) : Int) from rfl, l_T_buildWhole_2 hw, if_pos (Int.le_refl _), sm_o (by decide), h6, if_neg (by decide), sm_o (by decide), h1, wS (by omega)]
  have hc := X_closeCells (S := 21) (a := 172) (f := F) (n := L + 1) hw (by decide) (k_172 hw) (by omega) (fun i j => whB (gm 171 21 F i j))
  refine (congrArg (fun z => mj_bi z _) hc).trans ?_
  rw [mj_bi_some]
  have e2 : clr (L + 1) (L + 1) 0 (fun i j => whB (gm 171 21 F i j)) = whS F L := rfl
  rw [e2]
  rcases clr_01 (L + 1) (L + 1) 0 (fun i j => whB (gm 171 21 F i j)) with h | h
  · rw [e2] at h
    rw [if_pos h, h]
  · rw [e2] at h
    rw [if_neg (by rw [h]; decide), h]
theorem ok_moment (hw : wk sw w) {f : mj_F} (r : RR sw f) (x1 : Int) : Ok sw w f yX_moment yM_moment [.inl x1] := by
  obtain ⟨c, np, ne, st, N, L, nx, d, tp, ed, r⟩ := r
  obtain ⟨⟨hc4, hn8, he16, _, _⟩, ⟨_, xc, mc, xp, mp, xe, me, xs, ms⟩, hL, hE, h0, hg⟩ := r.1
  have xn := r.2.2.1.2.1
  have mn := r.2.2.1.2.2.1
  have hN := r.2.2.1.1
  have mc' : mj_u f 223 0 0 223 2 = (c : Int) := mc
  have mp' : mj_u f 223 0 0 223 3 = (np : Int) := mp
  have me' : mj_u f 223 0 0 223 4 = (ne : Int) := me
  have mn' : mj_u f 223 0 0 223 23 = (N : Int) := mn
  by_cases hV : 0 ≤ x1
  · obtain ⟨i, rfl⟩ : ∃ i : Nat, x1 = (i : Int) := ⟨x1.toNat, by omega⟩
    obtain ⟨hL20, l1, l2, l3, l4, _⟩ := r.2.2.2.1
    have e104 : mj_u f 223 0 0 234 (104 : Int).toNat = (L : Int) := l2
    by_cases hi : i < L
    · obtain ⟨F1, e1, r1, f4, o1⟩ := X_timesOfPath hw r (np_pos r.1 l4 (by omega))
      obtain ⟨_, l1F, l2F, l3F, l4F, l6F⟩ := r1.2.2.2.1
      obtain ⟨f01, tc, wh⟩ := l6F f4
      have hnp := np_pos r.1 l4 (show 0 < L by omega)
      -- what the class leaves: the whole times are right
      have key : F1 170 6 = 1 → ∃ F2, RX sw F2 c np ne st N L nx d tp ed ∧ (∀ a q, ¬ (170 ≤ a ∧ a ≤ 174) → F2 a q = f a q) ∧ F2 171 = F1 171 ∧ mj_call yX_moment w f [.inr (.inl 2), .inl (i : Int)] = some (w, F2, some (.inl (if (whS F1 L).1 = 0 then -4 else mj_w (-(mj_shr ((whS F1 L).2 0 (i + 1)) 1))))) := by
        intro h6
        have eX0 : mj_call yX_moment w f [.inr (.inl 2), .inl (i : Int)] = if (F1 170 5) = 0 then (if (F1 170 7) = 0 then some (w, F1, some (.inl (-4))) else mj_bi (mj_call yT_leastWhole w F1 [.inr (.inl 170), .inl ((i + 1 : Nat) : Int)]) (fun f2 v3 => some (w, f2, some (.inl v3)))) else mj_bu (mj_call yT_buildWhole w F1 [.inr (.inl 170), .inr (.inl 168)]) (fun f4 => if (f4 170 7) = 0 then some (w, f4, some (.inl (-4))) else mj_bi (mj_call yT_leastWhole w f4 [.inr (.inl 170), .inl ((i + 1 : Nat) : Int)]) (fun f5 v6 => some (w, f5, some (.inl v6)))) := by
          rw [c_X_moment hw, if_pos (by omega), l1, if_pos (by omega), e1, mj_bt_ref, if_pos (by omega), wS (by omega)]
        have least : ∀ G : mj_F, mj_call yT_leastWhole w G [.inr (.inl 170), .inl ((i + 1 : Nat) : Int)] = some (w, G, some (.inl (mj_w (-(mj_shr (G 172 (i + 1)) 1))))) := fun G => by
          rw [c_T_leastWhole hw, mj_gd_pos ⟨by omega, by omega⟩, Int.toNat_natCast, c_X_numberOf hw, mj_bi_some]
        by_cases h5 : F1 170 5 = 0
        · obtain ⟨w7, wc⟩ := wh h5 h6
          have w0 : F1 172 (i + 1) = (whS F1 L).2 0 (i + 1) := by
            have := wc 0 (i + 1) (by omega) (by omega)
            rw [← this]
            show F1 172 (i + 1) = F1 172 (21 * 0 + (i + 1))
            rw [Nat.mul_zero, Nat.zero_add]
          refine ⟨F1, r1, o1, rfl, ?_⟩
          rw [eX0, if_pos h5, w7, least, mj_bi_some, w0]
          split <;> rfl
        · have hB := T_buildWhole hw F1 hL20 l1F h6
          obtain ⟨F2, hF2⟩ : ∃ F2, F2 = mj_u (mj_u (sm 172 21 F1 (whS F1 L).2) 170 7 (whS F1 L).1) 170 5 0 := ⟨_, rfl⟩
          rw [← hF2] at hB
          have ho : ∀ a q, a ≠ 172 → (a ≠ 170 ∨ (q ≠ 5 ∧ q ≠ 7)) → F2 a q = F1 a q := fun a q h1 h2 => by
            rw [hF2, u_o (by omega), u_o (by omega), sm_o h1]
          have hA : ∀ a, a ≠ 172 → a ≠ 170 → F2 a = F1 a := fun a h1 h2 => funext fun q => ho a q h1 (Or.inl h2)
          have f7 : F2 170 7 = (whS F1 L).1 := by rw [hF2, u_o (Or.inr (by decide)), u_self]
          have f72 : ∀ i j, i < 21 → j < 21 → gm 172 21 F2 i j = (whS F1 L).2 i j := fun i j hi hj => by
            show F2 172 (21 * i + j) = _
            rw [hF2, u_o (Or.inl (by decide)), u_o (Or.inl (by decide)), sm_get hi hj]
          have w0 : F2 172 (i + 1) = (whS F1 L).2 0 (i + 1) := by
            have := f72 0 (i + 1) (by omega) (by omega)
            rw [← this]
            show F2 172 (i + 1) = F2 172 (21 * 0 + (i + 1))
            rw [Nat.mul_zero, Nat.zero_add]
          have hp := pl_o sw
          have ew : whS F2 L = whS F1 L := by unfold whS; rw [gm_c (hA 171 (by decide) (by decide))]
          have hpf : Pf F1 F2 := ⟨hA 224 (by decide) (by decide), hA 225 (by decide) (by decide), hA 226 (by decide) (by decide), hA 227 (by decide) (by decide), hA 229 (by decide) (by decide), hA 230 (by decide) (by decide), hA 231 (by decide) (by decide), hA 232 (by decide) (by decide)⟩
          obtain ⟨ra, rb, rc, rd, re, rf⟩ := id r1
          refine ⟨F2, ⟨RA_c (fun k hk => hA _ (by omega) (by omega)) (fun x _ _ => ho 223 x (by decide) (Or.inl (by decide))) (fun a h1 h2 => hA a (by omega) (by omega)) ra, RB_c (fun a h1 h2 => hA a (by omega) (by omega)) (hA 234 (by decide) (by decide)) rb, RC_c (fun k hk => hA _ (by omega) (by omega)) (ho 37 9 (by decide) (Or.inl (by decide))) (ho 223 23 (by decide) (Or.inl (by decide))) (fun a h1 h2 => hA a (by omega) (by omega)) (fun a h1 h2 => hA a (by omega) (by omega)) (fun a h1 h2 h3 => hA a (by omega) (by omega)) rc, ⟨hL20, (by rw [hA 168 (by decide) (by decide)]; exact l1F), (by rw [hA 234 (by decide) (by decide)]; exact l2F), (fun j hj => by rw [hA 169 (by decide) (by decide), hA 234 (by decide) (by decide)]; exact l3F j hj), chn_c (hA 228 (by decide) (by decide)) (hA 229 (by decide) (by decide)) l4F, fun _ => ⟨(by rw [ho 170 6 (by decide) (by decide)]; exact f01), (by rw [ho 170 6 (by decide) (by decide), gm_c (hA 171 (by decide) (by decide))]; exact TC_c hpf tc), fun _ _ => (by rw [ew]; exact ⟨f7, f72⟩)⟩⟩, RE_c (fun a h1 h2 => hA a (by omega) (by omega)) (ho 223 18 (by decide) (Or.inl (by decide))) (hA 234 (by decide) (by decide)) (hA 235 (by decide) (by decide)) (hA 228 (by decide) (by decide)) (hA 229 (by decide) (by decide)) re, ?_⟩, fun a q h => (ho a q (by omega) (Or.inl (by omega))).trans (o1 a q h), hA 171 (by decide) (by decide), ?_⟩
          · obtain ⟨a1, a2, a3, a4, a5, a6⟩ := rf
            refine ⟨a1, (ho 3 1 (by decide) (Or.inl (by decide))).trans a2, (ho 223 25 (by decide) (Or.inl (by decide))).trans a3, ?_, ?_, ?_⟩
            · rw [hA 4 (by decide) (by decide), hA 240 (by decide) (by decide)]; exact a4
            · rw [ho 3 8 (by decide) (Or.inl (by decide)), ho 223 31 (by decide) (Or.inl (by decide))]; exact a5
            · rw [ho 3 9 (by decide) (Or.inl (by decide)), ho 223 32 (by decide) (Or.inl (by decide))]; exact a6
          · rw [eX0, if_neg h5, hB, mj_bu_some, f7, least, mj_bi_some, w0]
            split <;> rfl
      -- the reference behind it
      have refM : ∀ F2, RX sw F2 c np ne st N L nx d tp ed → (∀ a q, ¬ (170 ≤ a ∧ a ≤ 174) → F2 a q = f a q) → ∃ G1 r', mj_call yM_moment w F2 [.inr (.inl 223), .inl (i : Int)] = (if r'.1 = 0 then (if (rcl (L + 1) (0, sqn (L + 1) (fun i j => rwb (r'.2 i j)) r'.2)).1 = 0 then some (w, rq G1 ((L + 1 : Nat) : Int) (rcl (L + 1) (0, sqn (L + 1) (fun i j => rwb (r'.2 i j)) r'.2)).1 (rcl (L + 1) (0, sqn (L + 1) (fun i j => rwb (r'.2 i j)) r'.2)).2, some (.inl (mj_w (-(mj_shr ((rcl (L + 1) (0, sqn (L + 1) (fun i j => rwb (r'.2 i j)) r'.2)).2 0 (i + 1)) 1))))) else some (w, rq G1 ((L + 1 : Nat) : Int) (rcl (L + 1) (0, sqn (L + 1) (fun i j => rwb (r'.2 i j)) r'.2)).1 (rcl (L + 1) (0, sqn (L + 1) (fun i j => rwb (r'.2 i j)) r'.2)).2, some (.inl (-4)))) else some (w, rq G1 ((L + 1 : Nat) : Int) r'.1 r'.2, some (.inl (-3)))) ∧ TR F1 ed st L r' ∧ (∀ n v A, Cor sw F2 (rq G1 n v A)) := by
        intro F2 r2 o2
        have r3 := RX_c (Cor_0 (f := F2)) r2
        have l2G : mj_u F2 223 0 0 234 (104 : Int).toNat = (L : Int) := r3.2.2.2.1.2.2.1
        obtain ⟨l1', l2', l3', l4', l5', _⟩ := r3.2.2.2.1
        obtain ⟨G1, r', e, t, o, s⟩ := M_lays hw r3.1 hnp l5' (show L ≤ 59 by omega) (k_234 hw) (by decide) (by decide) (show 105 + L ≤ 125 by omega) (by decide) (fun i hi => (l4' i hi).2)
        have e2 : mj_call yM_laysTrace w (mj_u F2 223 0 0) [.inr (.inl 223)] = some (w, rq G1 ((L + 1 : Nat) : Int) r'.1 r'.2, none) := by
          rw [c_M_laysTrace hw, c_M_traced hw, mj_bi_some, l2G]
          exact (congrArg (fun z => mj_bu z _) e).trans (mj_bu_some ..)
        have hpf : Pf (mj_u F2 223 0 0) F1 := by
          have : ∀ a, 224 ≤ a → F1 a = mj_u F2 223 0 0 a := fun a ha => funext fun q => by rw [mu0a (by omega), o2 a q (by omega), o1 a q (by omega)]
          exact ⟨this 224 (by decide), this 225 (by decide), this 226 (by decide), this 227 (by decide), this 229 (by decide), this 230 (by decide), this 231 (by decide), this 232 (by decide)⟩
        refine ⟨G1, r', ?_, TR_c hpf t, fun n v A => Cor_t Cor_0 (Cor_t (Cor_a (fun a q h => o a q (by omega))) Cor_rq)⟩
        rw [c_M_moment hw, if_pos (by omega), c_M_traced hw, mj_bi_some, l2G, if_pos (by omega), e2, mj_bu_some, rq_v]
        by_cases hr : r'.1 = 0
        · rw [if_pos hr, if_pos hr, R_wholes hw G1 (by omega) r' (Or.inl hr), mj_bu_some, rq_v, hr, wS (by omega)]
          obtain ⟨q, hq⟩ : ∃ q : Int × Mt, q = rcl (L + 1) (0, sqn (L + 1) (fun i j => rwb (r'.2 i j)) r'.2) := ⟨_, rfl⟩
          rw [← hq]
          by_cases hq0 : q.1 = 0
          · have e0 : mj_call yM_get w (rq G1 ((L + 1 : Nat) : Int) q.1 q.2) [.inr (.inl 223), .inl 0, .inl ((i + 1 : Nat) : Int)] = some (w, rq G1 ((L + 1 : Nat) : Int) q.1 q.2, some (.inl (q.2 0 (i + 1)))) := R_get hw G1 _ _ _ (i := 0) (j := i + 1) (by omega) (by omega)
            rw [if_pos hq0, if_pos hq0, e0, mj_bi_some, M_numberOf hw, mj_bi_some]
          · rw [if_neg hq0, if_neg hq0]
        · rw [if_neg hr, if_neg hr]
      rcases f01 with h | h
      · obtain ⟨G1, r', eM, t, cG⟩ := refM F1 r1 o1
        have fl := (TS_01 (TC_TR tc t)).2.2
        have fl' : 1 - F1 170 6 = r'.1 := fl
        rw [if_neg (by omega)] at eM
        refine ⟨F1, _, -3, ?_, eM, c, np, ne, st, N, L, nx, d, tp, ed, RX_c (cG _ _ _) r1⟩
        rw [c_X_moment hw, if_pos (by omega), l1, if_pos (by omega), e1, mj_bt_ref, if_neg (fun q => q h)]
      · obtain ⟨F2, r2, o2, _, eX⟩ := key h
        obtain ⟨G1, r', eM, t, cG⟩ := refM F2 r2 o2
        have T0 := TC_TR tc t
        have fl' : 1 - F1 170 6 = r'.1 := (TS_01 T0).2.2
        rw [if_pos (by omega)] at eM
        have hb := bm21 (show L + 1 ≤ 21 by omega)
        have T1 := TS_whole (by omega) hb.2.2 (TS_00 T0 (show 1 - F1 170 6 = 0 by omega)) (C' := fun i j => whB (gm 171 21 F1 i j)) (A' := sqn (L + 1) (fun i j => rwb (r'.2 i j)) r'.2) (fun i j hi hj => rfl) (fun i j hi hj => sqn_in hi hj)
        have hz : zcl (L + 1) 0 (fun i j => whB (gm 171 21 F1 i j)) = ((if (whS F1 L).1 = 0 then 1 else 0), (whS F1 L).2) := by
          unfold zcl
          rw [if_neg (fun z => z rfl)]
          rfl
        rw [hz] at T1
        obtain ⟨q, hq⟩ : ∃ q : Int × Mt, q = rcl (L + 1) (0, sqn (L + 1) (fun i j => rwb (r'.2 i j)) r'.2) := ⟨_, rfl⟩
        rw [← hq] at T1 eM
        have fl2 : (if (whS F1 L).1 = 0 then (1 : Int) else 0) = q.1 := (TS_01 T1).2.2
        by_cases hw0 : (whS F1 L).1 = 0
        · rw [if_pos hw0] at eX fl2
          rw [if_neg (by omega)] at eM
          exact ⟨F2, _, _, eX, eM, c, np, ne, st, N, L, nx, d, tp, ed, RX_c (cG _ _ _) r2⟩
        · rw [if_neg hw0] at eX fl2
          rw [if_pos fl2.symm] at eM
          rw [if_neg hw0] at T1
          have z0 := (TS_z0 (TS_00 T1 rfl) (show i + 1 < L + 1 by omega)).1
          rw [z0] at eX
          exact ⟨F2, _, _, eX, eM, c, np, ne, st, N, L, nx, d, tp, ed, RX_c (cG _ _ _) r2⟩
    · refine Ok_i ⟨c, np, ne, st, N, L, nx, d, tp, ed, r⟩ (F1 := f) (F3 := mj_u f 223 0 0) (v := -2) ?_ (Cor_r _ _) ?_ Cor_0
      · rw [c_X_moment hw, if_pos (by omega), l1, if_neg (by omega)]
      · rw [c_M_moment hw, if_pos (by omega), c_M_traced hw, mj_bi_some, e104, if_neg (by omega)]
  · refine Ok_i ⟨c, np, ne, st, N, L, nx, d, tp, ed, r⟩ (F1 := f) (F3 := mj_u f 223 0 0) (v := -1) ?_ (Cor_r _ _) ?_ Cor_0
    · simp only [c_X_moment hw, X_isTable hw, mj_bi_some, i01]
      repeat' split
      all_goals first | rfl | (exfalso; omega)
    · simp only [c_M_moment hw, M_isTable hw, mj_bi_some, i01]
      repeat' split
      all_goals first | rfl | (exfalso; omega)
end VA
