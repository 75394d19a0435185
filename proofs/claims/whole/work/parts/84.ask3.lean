/-! has, pairs, single. -/
def pcr (P : Nat → Nat → Bool) (k : Nat) : Nat → Nat
  | 0 => 0
  | l + 1 => pcr P k l + (if k ≠ l ∧ P k l = true then 1 else 0)
def pcs (P : Nat → Nat → Bool) (n : Nat) : Nat → Nat
  | 0 => 0
  | k + 1 => pcs P n k + pcr P k n
theorem pcr_le (P : Nat → Nat → Bool) (k l : Nat) : pcr P k l ≤ l := by
  induction l with
  | zero => exact Nat.le_refl 0
  | succ l ih =>
    show pcr P k l + (if k ≠ l ∧ P k l = true then 1 else 0) ≤ l + 1
    split <;> omega
theorem pcs_le (P : Nat → Nat → Bool) {n : Nat} (hn : n ≤ 6) (k : Nat) : pcs P n k ≤ 6 * k := by
  induction k with
  | zero => exact Nat.le_refl 0
  | succ k ih =>
    have := pcr_le P k n
    show pcs P n k + pcr P k n ≤ 6 * (k + 1)
    omega
theorem pcr_c {P Q : Nat → Nat → Bool} {n k : Nat} (h : ∀ l, l < n → P k l = Q k l) : ∀ l, l ≤ n → pcr P k l = pcr Q k l := by
  intro l
  induction l with
  | zero => exact fun _ => rfl
  | succ l ih =>
    intro hl
    show pcr P k l + (if k ≠ l ∧ P k l = true then 1 else 0) = pcr Q k l + (if k ≠ l ∧ Q k l = true then 1 else 0)
    rw [ih (by omega), h l (by omega)]
theorem pcs_c {P Q : Nat → Nat → Bool} {n : Nat} (h : ∀ k l, k < n → l < n → P k l = Q k l) : ∀ k, k ≤ n → pcs P n k = pcs Q n k := by
  intro k
  induction k with
  | zero => exact fun _ => rfl
  | succ k ih =>
    intro hk
    show pcs P n k + pcr P k n = pcs Q n k + pcr Q k n
    rw [ih (by omega), pcr_c (n := n) (fun l hl => h k l (by omega) hl) n (Nat.le_refl n)]
def prR (n : Nat) (x : Int) (A : Mt) (i j : Nat) : Bool := decide (A i j < 1000000) && (if x = 0 then true else if x = 1 then decide (mj_and (A i j) 1 = 1) else !folR n i j A)
theorem TS_fol {n : Nat} {M : Int} (hM : M ≤ 400000) {C A : Mt} (h : TS n M (0, C) (0, A)) {i j : Nat} (hi : i < n) (hj : j < n) : folZ n i j C = folR n i j A := by
  unfold folZ folR
  refine any_congr (fun k hk => decide_eq_decide.mpr ?_)
  have a := TS_sum hM h hi hk hk hj
  have b := TS_cell h hi hj
  omega
theorem TS_pr {n : Nat} {M : Int} (hM : M ≤ 400000) {C A : Mt} (h : TS n M (0, C) (0, A)) (x : Int) {i j : Nat} (hi : i < n) (hj : j < n) : prZ n i j x C = prR n x A i j := by
  unfold prZ prR
  rw [TS_fol hM h hi hj]
  rcases TS_cell h hi hj with ⟨a, b⟩ | ⟨a, _, _, b, c⟩
  · rw [decide_eq_false (show ¬ C i j < 268435456 by omega), decide_eq_false (show ¬ A i j < 1000000 by omega), Bool.false_and, Bool.false_and]
  · rw [decide_eq_true c, decide_eq_true b, a]
theorem wNN {a : Nat} {b : Nat} (h : a < 1000) (e : b = a + 1) : mj_w ((a : Int) + 1) = ((b : Nat) : Int) := by rw [e]; exact wS (by omega)
theorem w0N {a : Nat} (h : a < 1000) : mj_w ((a : Int) + 0) = ((a : Nat) : Int) := by unfold mj_w; omega
theorem pcr_y {P : Nat → Nat → Bool} {k l : Nat} (h1 : k ≠ l) (h2 : P k l = true) : pcr P k (l + 1) = pcr P k l + 1 := by
  show pcr P k l + (if k ≠ l ∧ P k l = true then 1 else 0) = _
  rw [if_pos ⟨h1, h2⟩]
theorem pcr_n {P : Nat → Nat → Bool} {k l : Nat} (h : ¬ (k ≠ l ∧ P k l = true)) : pcr P k (l + 1) = pcr P k l := by
  show pcr P k l + (if k ≠ l ∧ P k l = true then 1 else 0) = _
  rw [if_neg h, Nat.add_zero]
/-- bits, one a number -/
def sgl (P : Nat → Bool) : Nat → Int
  | 0 => 0
  | k + 1 => if P k = true then mj_or (sgl P k) (mj_shl 1 (k : Int)) else sgl P k
theorem or_rng (a b : Int) : -2147483648 ≤ mj_or a b ∧ mj_or a b < 2147483648 := by
  unfold mj_or
  have h1 := Int32.le_toInt (Int32.ofInt a ||| Int32.ofInt b)
  have h2 := Int32.toInt_lt (Int32.ofInt a ||| Int32.ofInt b)
  exact ⟨h1, h2⟩
theorem or_0r {a : Int} (h : -2147483648 ≤ a ∧ a < 2147483648) : mj_or a 0 = a := by
  unfold mj_or
  rw [show Int32.ofInt 0 = 0 from rfl, Int32.or_zero, bi_toInt h]
theorem sgl_rng (P : Nat → Bool) (k : Nat) : -2147483648 ≤ sgl P k ∧ sgl P k < 2147483648 := by
  induction k with
  | zero =>
    show -2147483648 ≤ (0 : Int) ∧ (0 : Int) < 2147483648
    omega
  | succ k ih =>
    show -2147483648 ≤ (if P k = true then mj_or (sgl P k) (mj_shl 1 (k : Int)) else sgl P k) ∧ (if P k = true then mj_or (sgl P k) (mj_shl 1 (k : Int)) else sgl P k) < 2147483648
    split
    · exact or_rng _ _
    · exact ih
theorem sgl_y {P : Nat → Bool} {k : Nat} (h : P k = true) : sgl P (k + 1) = mj_or (sgl P k) (mj_shl 1 (k : Int)) := if_pos h
theorem sgl_n {P : Nat → Bool} {k : Nat} (h : ¬ P k = true) : sgl P (k + 1) = sgl P k := if_neg h
theorem sgl_c {P Q : Nat → Bool} : ∀ k, (∀ x, x < k → P x = Q x) → sgl P k = sgl Q k := by
  intro k
  induction k with
  | zero => exact fun _ => rfl
  | succ k ih =>
    intro h
    show (if P k = true then mj_or (sgl P k) (mj_shl 1 (k : Int)) else sgl P k) = (if Q k = true then mj_or (sgl Q k) (mj_shl 1 (k : Int)) else sgl Q k)
    rw [ih (fun x hx => h x (by omega)), h k (by omega)]
section QU
variable {sw : Bool} {w : mj_W}
theorem loadT2 (hw : wk sw w) {f g : mj_F} {c np ne st t : Nat} (rb : RB f c) (la : RA sw g c np ne st) (h4 : g 234 = f 234) (ht : t < 4) : ∃ r' : Int × Mt, mj_call yM_loads w g [.inr (.inl 223), .inl (t : Int)] = some (w, rq g ((c + 1 : Nat) : Int) r'.1 r'.2, none) ∧ TS (c + 1) 802 (f (215 + 2 * t) 2, gm (216 + 2 * t) 6 f) r' := by
  refine ⟨(_, _), R_loads hw g (c := c) la.2.1.2.2.1 la.1.1 ht, TS_e (rb t ht).2 rfl ?_ (fun _ _ _ _ => rfl) (fun i j hi hj => ?_)⟩
  · show (if g 234 (100 + t) = 1 then (1 : Int) else 0) = f 234 (100 + t)
    rw [h4]
    rcases (TS_01 (rb t ht).2).2.1 with h | h
    · have h' : f 234 (100 + t) = 0 := h
      rw [h', if_neg (by decide)]
    · have h' : f 234 (100 + t) = 1 := h
      rw [h', if_pos rfl]
  · show sqn (c + 1) (tsq g 234 t) (gm 252 62 g) i j = tsq f 234 t i j
    rw [sqn_in hi hj, tsq_c h4]
theorem X_pairs41 (hw : wk sw w) (F : mj_F) {z n : Nat} (hz : zn z = true) (hF : F z 1 = (n : Int)) (hn : n ≤ 6) (t x : Int) : mj_run yX_pairs w F 41 [.inr (.inl 2), .inl t, .inl x, .inr (.inl z), .inl 0, .inl 0, .inr (.inr (.inr 0))] [] = some (w, F, some (.inl ((pcs (fun i j => prZ n i j x (gm (z + 1) 6 F)) n n : Nat) : Int))) := by
  generalize hP : (fun i j => prZ n i j x (gm (z + 1) 6 F)) = P
  have hP' : ∀ i j, prZ n i j x (gm (z + 1) 6 F) = P i j := fun i j => by rw [← hP]
  obtain ⟨u, h⟩ := loop_ex (fun k (_ : Unit) (u : mj_V) => mj_run yX_pairs w F 41 [.inr (.inl 2), .inl t, .inl x, .inr (.inl z), .inl ((pcs P n k : Nat) : Int), .inl (k : Int), u] []) (fun _ a => a) n (fun k _ u hk => by
    have b1 := pcs_le P hn k
    rw [l_X_pairs_41 hw _ _ _ z _ _ _ hz, hF, if_neg (by omega)]
    have h := loop_st (fun l => mj_run yX_pairs w F 53 [.inr (.inl 2), .inl t, .inl x, .inr (.inl z), .inl ((pcs P n k + pcr P k l : Nat) : Int), .inl (k : Int), .inl (l : Int)] []) (Nat.zero_le n) (fun l _ hl => by
      have b2 := pcr_le P k l
      rw [l_X_pairs_53 hw _ _ _ z _ _ _ hz, hF, if_neg (by omega)]
      by_cases hkl : k = l
      · rw [if_pos (by omega), wS (by omega), pcr_n (fun q => q.1 hkl)]
      · rw [if_neg (by omega), Z_countsAsPair hw hz F hF hn hk hl, mj_bi_some, hP']
        by_cases hp : P k l = true
        · rw [if_pos hp, if_neg (by decide), wNN (b := pcs P n k + pcr P k (l + 1)) (by omega) (by rw [pcr_y hkl hp]; omega), wS (by omega)]
        · rw [if_neg hp, if_pos rfl, wS (by omega), pcr_n (fun q => hp q.2)])
    refine ⟨.inl (n : Int), h.trans ?_⟩
    rw [l_X_pairs_53 hw _ _ _ z _ _ _ hz, hF, if_pos (by omega), wS (by omega)]
    rfl) () (.inr (.inr (.inr 0)))
  refine h.trans ?_
  rw [l_X_pairs_41 hw _ _ _ z _ _ _ hz, hF, if_pos (by omega)]
theorem R_pairs43 (hw : wk sw w) (f : mj_F) {n : Nat} (hn : n ≤ 6) (v : Int) (A : Mt) (t x : Int) : mj_run yM_pairs w (rq f n v A) 43 [.inr (.inl 223), .inl t, .inl x, .inl 0, .inl 0, .inr (.inr (.inr 0))] [] = some (w, rq f n v A, some (.inl ((pcs (prR n x A) n n : Nat) : Int))) := by
  generalize hP : prR n x A = P
  have hP' : ∀ i j, P i j = (decide (A i j < 1000000) && (if x = 0 then true else if x = 1 then decide (mj_and (A i j) 1 = 1) else !folR n i j A)) := fun i j => by rw [← hP]; rfl
  obtain ⟨u, h⟩ := loop_ex (fun k (_ : Unit) (u : mj_V) => mj_run yM_pairs w (rq f n v A) 43 [.inr (.inl 223), .inl t, .inl x, .inl ((pcs P n k : Nat) : Int), .inl (k : Int), u] []) (fun _ a => a) n (fun k _ u hk => by
    have b1 := pcs_le P hn k
    rw [l_M_pairs_43 hw, rq_n, if_neg (by omega)]
    have h := loop_st (fun l => mj_run yM_pairs w (rq f n v A) 55 [.inr (.inl 223), .inl t, .inl x, .inl ((pcs P n k + pcr P k l : Nat) : Int), .inl (k : Int), .inl (l : Int)] []) (Nat.zero_le n) (fun l _ hl => by
      have b2 := pcr_le P k l
      rw [l_M_pairs_55 hw, rq_n, if_neg (by omega)]
      by_cases hkl : k = l
      · rw [if_pos (by omega), wS (by omega), pcr_n (fun q => q.1 hkl)]
      · have ey : P k l = true → mj_w (((pcs P n k + pcr P k l : Nat) : Int) + 1) = ((pcs P n k + pcr P k (l + 1) : Nat) : Int) := fun hp => wNN (by omega) (by rw [pcr_y hkl hp]; omega)
        have en : ¬ P k l = true → ((pcs P n k + pcr P k (l + 1) : Nat) : Int) = ((pcs P n k + pcr P k l : Nat) : Int) := fun hp => by rw [pcr_n (fun q => hp q.2)]
        have e0 : mj_w (((pcs P n k + pcr P k l : Nat) : Int) + 0) = ((pcs P n k + pcr P k l : Nat) : Int) := w0N (by omega)
        have hPk := hP' k l
        rw [if_neg (by omega), R_get hw f n v A (by omega) (by omega), mj_bi_some]
        by_cases h1 : A k l < 1000000
        · rw [decide_eq_true h1, Bool.true_and] at hPk
          rw [if_pos h1]
          by_cases hx0 : x = 0
          · rw [if_pos hx0] at hPk ⊢
            rw [ey hPk, wS (by omega)]
          · rw [if_neg hx0] at hPk ⊢
            by_cases hx1 : x = 1
            · rw [if_pos hx1] at hPk
              rw [if_neg (fun q => q hx1), R_get hw f n v A (by omega) (by omega), mj_bi_some]
              by_cases ho : mj_and (A k l) 1 = 1
              · rw [if_neg (fun q => q ho), ey (hPk.trans (decide_eq_true ho)), wS (by omega)]
              · rw [if_pos ho, e0, en (by rw [hPk, decide_eq_false ho]; decide), wS (by omega)]
            · rw [if_neg hx1] at hPk
              rw [if_pos hx1, R_follows hw f (by omega) hk hl, mj_bi_some]
              by_cases ho : folR n k l A = true
              · rw [if_pos ho, if_pos (by decide), e0, en (by rw [hPk, ho]; decide), wS (by omega)]
              · rw [if_neg ho, if_neg (by decide), ey (by rw [hPk, Bool.not_eq_true _ |>.mp ho]; rfl), wS (by omega)]
        · rw [decide_eq_false h1, Bool.false_and] at hPk
          rw [if_neg h1, wS (by omega), en (by rw [hPk]; decide)])
    refine ⟨.inl (n : Int), h.trans ?_⟩
    rw [l_M_pairs_55 hw, rq_n, if_pos (by omega), wS (by omega)]
    rfl) () (.inr (.inr (.inr 0)))
  refine h.trans ?_
  rw [l_M_pairs_43 hw, rq_n, if_pos (by omega)]
def snC (C : Mt) (x : Nat) : Bool := decide (cp (C (x + 1) 0) (C 0 (x + 1)) = 1)
def snR (A : Mt) (x : Nat) : Bool := decide (rp (A (x + 1) 0) (A 0 (x + 1)) = 1)
theorem X_single31 (hw : wk sw w) (F : mj_F) {z n : Nat} (hz : zn z = true) (hF : F z 1 = ((n + 1 : Nat) : Int)) (hn : n ≤ 5) (t : Int) : mj_run yX_single w F 31 [.inr (.inl 2), .inl t, .inr (.inl z), .inl 0, .inl 1] [] = some (w, F, some (.inl (sgl (snC (gm (z + 1) 6 F)) n))) := by
  have h := loop_st (fun k => mj_run yX_single w F 31 [.inr (.inl 2), .inl t, .inr (.inl z), .inl (sgl (snC (gm (z + 1) 6 F)) k), .inl ((k + 1 : Nat) : Int)] []) (Nat.zero_le n) (fun k _ hk => by
    have e0 : mj_call yZ_cell w F [.inr (.inl z), .inl ((k + 1 : Nat) : Int), .inl 0] = some (w, F, some (.inl (gm (z + 1) 6 F (k + 1) 0))) := Z_cellf hw hz F (i := k + 1) (j := 0) (by omega) (by omega)
    have e1 : mj_call yZ_cell w F [.inr (.inl z), .inl 0, .inl ((k + 1 : Nat) : Int)] = some (w, F, some (.inl (gm (z + 1) 6 F 0 (k + 1)))) := Z_cellf hw hz F (i := 0) (j := k + 1) (by omega) (by omega)
    rw [l_X_single_31 hw _ _ z _ _ hz, hF, if_neg (by omega), e0, mj_bi_some, e1, mj_bi_some, X_sumOf hw, mj_bi_some, wS (by omega)]
    by_cases hp : cp (gm (z + 1) 6 F (k + 1) 0) (gm (z + 1) 6 F 0 (k + 1)) = 1
    · rw [if_neg (fun q => q hp), sgl_y (show snC (gm (z + 1) 6 F) k = true from decide_eq_true hp), show mj_w (((k + 1 : Nat) : Int) - 1) = (k : Int) from wP (by omega)]
    · rw [if_pos hp, sgl_n (show ¬ snC (gm (z + 1) 6 F) k = true by unfold snC; rw [decide_eq_false hp]; decide)])
  refine h.trans ?_
  rw [l_X_single_31 hw _ _ z _ _ hz, hF, if_pos (by omega)]
theorem R_single33 (hw : wk sw w) (f : mj_F) {n : Nat} (hn : n ≤ 5) (hf : f 223 2 = (n : Int)) (m v : Int) (A : Mt) (t : Int) : mj_run yM_single w (rq f m v A) 33 [.inr (.inl 223), .inl t, .inl 0, .inl 0] [] = some (w, rq f m v A, some (.inl (sgl (snR A) n))) := by
  have h := loop_st (fun k => mj_run yM_single w (rq f m v A) 33 [.inr (.inl 223), .inl t, .inl (sgl (snR A) k), .inl (k : Int)] []) (Nat.zero_le n) (fun k _ hk => by
    have e0 : mj_call yM_get w (rq f m v A) [.inr (.inl 223), .inl ((k + 1 : Nat) : Int), .inl 0] = some (w, rq f m v A, some (.inl (A (k + 1) 0))) := R_get hw f m v A (i := k + 1) (j := 0) (by omega) (by omega)
    have e1 : mj_call yM_get w (rq f m v A) [.inr (.inl 223), .inl 0, .inl ((k + 1 : Nat) : Int)] = some (w, rq f m v A, some (.inl (A 0 (k + 1)))) := R_get hw f m v A (i := 0) (j := k + 1) (by omega) (by omega)
    rw [l_M_single_33 hw, rq_f (by decide) (by decide), hf, if_neg (by omega), wS (by omega), e0, mj_bi_some, e1, mj_bi_some, M_plus hw, mj_bi_some]
    by_cases hp : rp (A (k + 1) 0) (A 0 (k + 1)) = 1
    · rw [if_neg (fun q => q hp), sgl_y (show snR A k = true from decide_eq_true hp)]
    · rw [if_pos hp, sgl_n (show ¬ snR A k = true by unfold snR; rw [decide_eq_false hp]; decide), or_0r (sgl_rng _ k)])
  refine h.trans ?_
  rw [l_M_single_33 hw, rq_f (by decide) (by decide), hf, if_pos (by omega)]
theorem ok_pairs (hw : wk sw w) {f : mj_F} (r : RR sw f) (x1 x2 : Int) : Ok sw w f yX_pairs yM_pairs [.inl x1, .inl x2] := by
  obtain ⟨c, np, ne, st, N, L, nx, d, tp, ed, r⟩ := r
  obtain ⟨⟨hc4, hn8, he16, _, _⟩, ⟨_, xc, mc, xp, mp, xe, me, xs, ms⟩, hL, hE, h0, hg⟩ := r.1
  have xn := r.2.2.1.2.1
  have mn := r.2.2.1.2.2.1
  have hN := r.2.2.1.1
  have mc' : mj_u f 223 0 0 223 2 = (c : Int) := mc
  have mp' : mj_u f 223 0 0 223 3 = (np : Int) := mp
  have me' : mj_u f 223 0 0 223 4 = (ne : Int) := me
  have mn' : mj_u f 223 0 0 223 23 = (N : Int) := mn
  by_cases hV : (0 ≤ x1 ∧ x1 < 4) ∧ (0 ≤ x2 ∧ x2 ≤ 2)
  · obtain ⟨t, rfl⟩ : ∃ t : Nat, x1 = (t : Int) := ⟨x1.toNat, by omega⟩
    have ht : t < 4 := by omega
    obtain ⟨r', l1, l2⟩ := loadT hw r.2.1 (LD_0 r) ht
    by_cases h : f (215 + 2 * t) 2 = 0
    · have l3 := TS_00 l2 h
      have hr0 : r'.1 = 0 := (TS_01 l2).2.2.symm.trans h
      refine Ok_i ⟨c, np, ne, st, N, L, nx, d, tp, ed, r⟩ (F1 := f) (F3 := rq (mj_u f 223 0 0) ((c + 1 : Nat) : Int) r'.1 r'.2) (v := ((pcs (prR (c + 1) x2 r'.2) (c + 1) (c + 1) : Nat) : Int)) ?_ (Cor_r _ _) ?_ (Cor_t Cor_0 Cor_rq)
      · simp only [c_X_pairs hw, X_isTable hw, mj_bi_some, i01]
        rw [if_neg (by omega), if_neg (by omega), if_pos (by omega), mj_gd_pos ⟨by omega, by omega⟩, Int.toNat_natCast, if_pos h, X_pairs41 hw f (zn215 ht) (r.2.1 t ht).1 (by omega), show 215 + 2 * t + 1 = 216 + 2 * t by omega, pcs_c (fun i j hi hj => TS_pr (by decide) l3 x2 hi hj) (c + 1) (Nat.le_refl _)]
      · simp only [c_M_pairs hw, M_isTable hw, M_isIn hw, mj_bi_some, i01]
        rw [if_neg (by omega), if_pos (by omega), l1, mj_bu_some, rq_v, if_pos hr0, R_pairs43 hw _ (by omega)]
    · have hr0 : ¬ r'.1 = 0 := fun q => h ((TS_01 l2).2.2.trans q)
      refine Ok_i ⟨c, np, ne, st, N, L, nx, d, tp, ed, r⟩ (F1 := f) (F3 := rq (mj_u f 223 0 0) ((c + 1 : Nat) : Int) r'.1 r'.2) (v := -2) ?_ (Cor_r _ _) ?_ (Cor_t Cor_0 Cor_rq)
      · simp only [c_X_pairs hw, X_isTable hw, mj_bi_some, i01]
        rw [if_neg (by omega), if_neg (by omega), if_pos (by omega), mj_gd_pos ⟨by omega, by omega⟩, Int.toNat_natCast, if_neg h]
      · simp only [c_M_pairs hw, M_isTable hw, M_isIn hw, mj_bi_some, i01]
        rw [if_neg (by omega), if_pos (by omega), l1, mj_bu_some, rq_v, if_neg hr0]
  · refine Ok_i ⟨c, np, ne, st, N, L, nx, d, tp, ed, r⟩ (F1 := f) (F3 := mj_u f 223 0 0) (v := -1) ?_ (Cor_r _ _) ?_ Cor_0
    · simp only [c_X_pairs hw, X_isTable hw, mj_bi_some, i01]
      repeat' split
      all_goals first | rfl | (exfalso; omega)
    · simp only [c_M_pairs hw, M_isTable hw, M_isIn hw, mj_bi_some, i01]
      repeat' split
      all_goals first | rfl | (exfalso; omega)
theorem ok_single (hw : wk sw w) {f : mj_F} (r : RR sw f) (x1 : Int) : Ok sw w f yX_single yM_single [.inl x1] := by
  obtain ⟨c, np, ne, st, N, L, nx, d, tp, ed, r⟩ := r
  obtain ⟨⟨hc4, hn8, he16, _, _⟩, ⟨_, xc, mc, xp, mp, xe, me, xs, ms⟩, hL, hE, h0, hg⟩ := r.1
  have xn := r.2.2.1.2.1
  have mn := r.2.2.1.2.2.1
  have hN := r.2.2.1.1
  have mc' : mj_u f 223 0 0 223 2 = (c : Int) := mc
  have mp' : mj_u f 223 0 0 223 3 = (np : Int) := mp
  have me' : mj_u f 223 0 0 223 4 = (ne : Int) := me
  have mn' : mj_u f 223 0 0 223 23 = (N : Int) := mn
  by_cases hV : 0 ≤ x1 ∧ x1 < 4
  · obtain ⟨t, rfl⟩ : ∃ t : Nat, x1 = (t : Int) := ⟨x1.toNat, by omega⟩
    have ht : t < 4 := by omega
    obtain ⟨r', l1, l2⟩ := loadT hw r.2.1 (LD_0 r) ht
    by_cases h : f (215 + 2 * t) 2 = 0
    · have l3 := TS_00 l2 h
      have hr0 : r'.1 = 0 := (TS_01 l2).2.2.symm.trans h
      have e : sgl (snC (gm (216 + 2 * t) 6 f)) c = sgl (snR r'.2) c := sgl_c c (fun x hx => by
        unfold snC snR
        have a := TS_sum (by decide) l3 (show x + 1 < c + 1 by omega) (show 0 < c + 1 by omega) (show 0 < c + 1 by omega) (show x + 1 < c + 1 by omega)
        exact decide_eq_decide.mpr (by omega))
      refine Ok_i ⟨c, np, ne, st, N, L, nx, d, tp, ed, r⟩ (F1 := f) (F3 := rq (mj_u f 223 0 0) ((c + 1 : Nat) : Int) r'.1 r'.2) (v := sgl (snR r'.2) c) ?_ (Cor_r _ _) ?_ (Cor_t Cor_0 Cor_rq)
      · simp only [c_X_single hw, X_isTable hw, mj_bi_some, i01]
        rw [if_pos (by omega), mj_gd_pos ⟨by omega, by omega⟩, Int.toNat_natCast, if_pos h, X_single31 hw f (zn215 ht) (r.2.1 t ht).1 (by omega), show 215 + 2 * t + 1 = 216 + 2 * t by omega, e]
      · simp only [c_M_single hw, M_isTable hw, mj_bi_some, i01]
        rw [if_pos (by omega), l1, mj_bu_some, rq_v, if_pos hr0, R_single33 hw _ (by omega) mc']
    · have hr0 : ¬ r'.1 = 0 := fun q => h ((TS_01 l2).2.2.trans q)
      refine Ok_i ⟨c, np, ne, st, N, L, nx, d, tp, ed, r⟩ (F1 := f) (F3 := rq (mj_u f 223 0 0) ((c + 1 : Nat) : Int) r'.1 r'.2) (v := -2) ?_ (Cor_r _ _) ?_ (Cor_t Cor_0 Cor_rq)
      · simp only [c_X_single hw, X_isTable hw, mj_bi_some, i01]
        rw [if_pos (by omega), mj_gd_pos ⟨by omega, by omega⟩, Int.toNat_natCast, if_neg h]
      · simp only [c_M_single hw, M_isTable hw, mj_bi_some, i01]
        rw [if_pos (by omega), l1, mj_bu_some, rq_v, if_neg hr0]
  · refine Ok_i ⟨c, np, ne, st, N, L, nx, d, tp, ed, r⟩ (F1 := f) (F3 := mj_u f 223 0 0) (v := -1) ?_ (Cor_r _ _) ?_ Cor_0
    · simp only [c_X_single hw, X_isTable hw, mj_bi_some, i01]
      repeat' split
      all_goals first | rfl | (exfalso; omega)
    · simp only [c_M_single hw, M_isTable hw, mj_bi_some, i01]
      repeat' split
      all_goals first | rfl | (exfalso; omega)
end QU
