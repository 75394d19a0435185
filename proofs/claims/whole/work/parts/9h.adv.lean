/-! Numbers, signs, gaps; one token on, in both. -/
section TOK2
variable {sw sw' : Bool} {w w' : mj_W} {f g : mj_F} {T : Nat → Int} {n : Nat}
def NV (x v : Int) : Prop := (x = v ∧ 0 ≤ v ∧ v ≤ 50) ∨ (x = 51 ∧ 50 < v ∧ v ≤ 20000)
theorem R_dig_e (hw : wk sw w) (tp : TP f g T n) {q : Nat} {k a x : Int} (hq : q ≤ n) (he : ¬ (q < n ∧ 48 ≤ T q ∧ T q ≤ 57)) : mj_run yR_readDigits w (cst f (q : Int) k a x) 10 [.inr (.inl 3)] [] = some (w, cst f (q : Int) k a x, none) := by
  obtain ⟨h1, h2, h3, h4, h5, h6⟩ := tp
  rw [l_R_readDigits_10 hw]
  simp only [cst_3, cst_4, cst_7, cst_t, h2, Int.toNat_natCast]
  by_cases e1 : (n : Int) ≤ (q : Int)
  · rw [if_pos e1]
  · rw [if_neg e1, mj_gd_pos (by omega), h4 q (by omega)]
    by_cases e2 : T q < 48
    · rw [if_pos e2]
    · rw [if_neg e2, mj_gd_pos (by omega), if_pos (by omega)]
theorem R_dig_s (hw : wk sw w) (tp : TP f g T n) {q : Nat} {k a x : Int} (hx : 0 ≤ x ∧ x ≤ 51) (hq : q < n) (he : 48 ≤ T q ∧ T q ≤ 57) : mj_run yR_readDigits w (cst f (q : Int) k a x) 10 [.inr (.inl 3)] [] = mj_run yR_readDigits w (cst f ((q + 1 : Nat) : Int) k a (if 51 < x * 10 + T q - 48 then 51 else x * 10 + T q - 48)) 10 [.inr (.inl 3)] [] := by
  obtain ⟨h1, h2, h3, h4, h5, h6⟩ := tp
  rw [l_R_readDigits_10 hw]
  simp only [cst_u7, cst_u4, cst_3, cst_4, cst_7, cst_t, h2, Int.toNat_natCast]
  have e : mj_w ((mj_w ((mj_w (x * 10)) + T q)) - 48) = x * 10 + T q - 48 := by
    rw [w_id (a := x * 10) (by omega), w_id (a := x * 10 + T q) (by omega), w_id (by omega)]
  rw [if_neg (by omega), mj_gd_pos (by omega), h4 q hq, if_neg (by omega), mj_gd_pos (by omega), if_neg (by omega), mj_gd_pos (by omega), e, wS (by omega)]
theorem M_dig_e (hw' : wk sw' w') (tp : TP f g T n) {q : Nat} {a t v : Int} (s : Int) (he : ¬ (q < n ∧ 48 ≤ T q ∧ T q ≤ 57)) : mj_run yM_advance w' (mst g (q : Int) a t v) 178 [.inr (.inl 223), .inl s, .inr (.inr (.inr 0))] [] = some (w', mst g (q : Int) a t v, none) := by
  rw [l_M_advance_178 hw', M_see hw' tp, mj_bi_some, M_isIn hw', mj_bi_some, if_neg (fun z => he ((sv_in tp 48 57 (by decide) (by decide)).1 z)), if_pos rfl, l_M_advance_372 hw']
theorem M_dig_s (hw' : wk sw' w') (tp : TP f g T n) {q : Nat} {a t v : Int} (s : Int) (hv : 0 ≤ v ∧ v ≤ 20000) (hq : q < n) (he : 48 ≤ T q ∧ T q ≤ 57) : mj_run yM_advance w' (mst g (q : Int) a t v) 178 [.inr (.inl 223), .inl s, .inr (.inr (.inr 0))] [] = mj_run yM_advance w' (mst g ((q + 1 : Nat) : Int) a t (if v ≤ 1000 then 10 * v + T q - 48 else v)) 178 [.inr (.inl 223), .inl s, .inr (.inr (.inr 0))] [] := by
  have h1 := tp.1
  have hs : sv T n q = T q := (sv_eq tp (T q) (by omega)).2 ⟨hq, rfl⟩
  rw [l_M_advance_178 hw', M_see hw' tp, mj_bi_some, M_isIn hw', mj_bi_some, if_pos ((sv_in tp 48 57 (by decide) (by decide)).2 ⟨hq, he⟩), if_neg (by decide), mst_30]
  by_cases h6 : v ≤ 1000
  · rw [if_pos h6, if_pos h6, M_see hw' tp, mj_bi_some, l_M_advance_225 hw', mst_u30, mst_27, mst_u27, wS (by omega), hs, w_id (a := 10 * v) (by omega), w_id (a := 10 * v + T q) (by omega), w_id (a := 10 * v + T q - 48) (by omega)]
  · rw [if_neg h6, if_neg h6, l_M_advance_225 hw', mst_u30, mst_27, mst_u27, wS (by omega)]
theorem dig_both (hw : wk sw w) (hw' : wk sw' w') (tp : TP f g T n) (s : Int) {k a t : Int} : ∀ (m q : Nat) (x v : Int), n - q ≤ m → q ≤ n → NV x v → ∃ (p : Nat) (x' v' : Int), q ≤ p ∧ p ≤ n ∧ (q < n ∧ 48 ≤ T q ∧ T q ≤ 57 → q < p) ∧ NV x' v' ∧ mj_run yR_readDigits w (cst f (q : Int) k a x) 10 [.inr (.inl 3)] [] = some (w, cst f (p : Int) k a x', none) ∧ mj_run yM_advance w' (mst g (q : Int) a t v) 178 [.inr (.inl 223), .inl s, .inr (.inr (.inr 0))] [] = some (w', mst g (p : Int) a t v', none) := by
  intro m
  induction m with
  | zero =>
    intro q x v hm hq hx
    exact ⟨q, _, _, Nat.le_refl _, hq, fun z => by omega, hx, R_dig_e hw tp hq (by omega), M_dig_e hw' tp s (by omega)⟩
  | succ m ih =>
    intro q x v hm hq hx
    by_cases hl : q < n ∧ 48 ≤ T q ∧ T q ≤ 57
    · have hx' : NV (if 51 < x * 10 + T q - 48 then 51 else x * 10 + T q - 48) (if v ≤ 1000 then 10 * v + T q - 48 else v) := by
        unfold NV at hx ⊢
        split <;> split <;> omega
      have hr : (0 ≤ x ∧ x ≤ 51) ∧ 0 ≤ v ∧ v ≤ 20000 := by unfold NV at hx; omega
      obtain ⟨p, x', v', e1, e2, _, e4, e5, e6⟩ := ih (q + 1) _ _ (by omega) (by omega) hx'
      exact ⟨p, x', v', by omega, e2, fun _ => by omega, e4, (R_dig_s hw tp hr.1 hl.1 hl.2).trans e5, (M_dig_s hw' tp s hr.2 hl.1 hl.2).trans e6⟩
    · exact ⟨q, _, _, Nat.le_refl _, hq, fun z => absurd z hl, hx, R_dig_e hw tp hq hl, M_dig_e hw' tp s hl⟩
/-- a sign, in the class: what stands behind it -/
theorem R_sign_0 (hw : wk sw w) (tp : TP f g T n) {q : Nat} {k a x : Int} (hq : q < n) : mj_call yR_readSign w (cst f (q : Int) k a x) [.inr (.inl 3)] = mj_run yR_readSign w (cst f ((q + 1 : Nat) : Int) k a x) 50 [.inr (.inl 3), .inl (T q), .inr (.inr (.inr 0))] [.inl (if sv T n (q + 1) = 61 then 1 else 0)] := by
  have hs := sv_eq tp (q := q + 1) 61 (by decide)
  obtain ⟨h1, h2, h3, h4, h5, h6⟩ := tp
  rw [c_R_readSign hw]
  simp only [cst_u4, cst_3, cst_4, cst_t, h2, Int.toNat_natCast]
  rw [wS (by omega), h4 q hq]
  simp only [Int.toNat_natCast]
  rw [mj_gd_pos (by omega)]
  by_cases e1 : (n : Int) ≤ ((q + 1 : Nat) : Int)
  · rw [if_pos e1, l_R_readSign_49 hw, if_neg (fun z => by have := hs.1 z; omega)]
  · rw [if_neg e1, mj_gd_pos (by omega)]
    have h7 := h4 (q + 1) (by omega)
    by_cases e2 : f 4 (q + 1) = 61
    · rw [if_neg (fun z => z e2), if_pos (hs.2 ⟨by omega, h7.symm.trans e2⟩)]
    · rw [if_pos e2, l_R_readSign_49 hw, if_neg (fun z => e2 (h7.trans (hs.1 z).2))]
/-- both signs -/
theorem sign_both (hw : wk sw w) (hw' : wk sw' w') (tp : TP f g T n) {q : Nat} {k a x t v : Int} (hq : q < n) : ∃ (p : Nat) (k' x' t' v' : Int), q < p ∧ p ≤ n ∧ k' ≠ 0 ∧ TK k' x' t' v' ∧ mj_call yR_readSign w (cst f (q : Int) k a x) [.inr (.inl 3)] = some (w, cst f (p : Int) k' a x', none) ∧
    (if ¬ sv T n q = 59 then if sv T n q = 60 then mj_run yM_advance w' (mst g ((q + 1 : Nat) : Int) a t v) 280 [.inr (.inl 223), .inl (sv T n q), .inr (.inr (.inr 0))] [.inr (.inl 223)] else if sv T n q = 61 then mj_run yM_advance w' (mst g ((q + 1 : Nat) : Int) a t v) 280 [.inr (.inl 223), .inl (sv T n q), .inr (.inr (.inr 0))] [.inr (.inl 223)] else if ¬ sv T n q = 62 then mj_run yM_advance w' (mst g ((q + 1 : Nat) : Int) a t v) 285 [.inr (.inl 223), .inl (sv T n q), .inr (.inr (.inr 0))] [.inl 5, .inr (.inl 223)] else mj_run yM_advance w' (mst g ((q + 1 : Nat) : Int) a t v) 280 [.inr (.inl 223), .inl (sv T n q), .inr (.inr (.inr 0))] [.inr (.inl 223)] else mj_run yM_advance w' (mst g ((q + 1 : Nat) : Int) a t v) 285 [.inr (.inl 223), .inl (sv T n q), .inr (.inr (.inr 0))] [.inl 3, .inr (.inl 223)]) = some (w', mst g (p : Int) a t' v', none) := by
  have hn := tp.1
  have c0 : ∀ l : Int, 0 ≤ l ∧ l < 128 → (T q = l → sv T n q = l) ∧ (¬ T q = l → ¬ sv T n q = l) := fun l hl => ⟨fun z => (sv_eq tp l hl).2 ⟨hq, z⟩, fun z y => z ((sv_eq tp l hl).1 y).2⟩
  rw [R_sign_0 hw tp hq, l_R_readSign_50 hw]
  simp only [cst_u5, cst_u7]
  have hs := sv_eq tp (q := q + 1) 61 (by decide)
  by_cases c1 : T q = 59
  · refine ⟨q + 1, 4, x, 3, 4, by omega, by omega, by decide, Or.inr (Or.inr (Or.inr (Or.inr (Or.inl ⟨rfl, rfl⟩)))), ?_, ?_⟩
    · rw [if_neg (fun z => z c1), l_R_readSign_170 hw]
    · rw [if_neg (fun z => z ((c0 59 (by decide)).1 c1)), (c0 59 (by decide)).1 c1, l_M_advance_285 hw', if_neg (by decide), u_self, if_pos (by decide), l_M_advance_315 hw', l_M_advance_316 hw', if_pos rfl, l_M_advance_331 hw', if_pos (by decide), if_pos (by decide), if_pos rfl, l_M_advance_369 hw', mst_u29, mst_u30, l_M_advance_372 hw']
  · rw [if_pos c1, if_pos ((c0 59 (by decide)).2 c1)]
    by_cases c2 : T q = 61
    · refine ⟨q + 1, 3, 2, 4, 2, by omega, by omega, by decide, Or.inr (Or.inr (Or.inr (Or.inl ⟨rfl, rfl, rfl, by decide, by decide⟩))), ?_, ?_⟩
      · rw [if_neg (fun z => z c2), l_R_readSign_170 hw]
      · rw [(c0 61 (by decide)).1 c2, if_neg (by decide), if_pos rfl, l_M_advance_280 hw', l_M_advance_285 hw', if_pos rfl, l_M_advance_315 hw', l_M_advance_316 hw', if_pos rfl, l_M_advance_331 hw', if_neg (by decide), l_M_advance_369 hw', mst_u29, mst_u30, l_M_advance_372 hw']
    · rw [if_pos c2]
      by_cases c3 : T q = 60
      · rw [if_neg (fun z => z c3), (c0 60 (by decide)).1 c3, if_pos rfl, l_M_advance_280 hw', l_M_advance_285 hw', if_neg (show ¬ (60 : Int) = 61 by decide), u_self, if_neg (show ¬ ¬ (4 : Int) = 4 by decide), mst_u29, M_see hw' tp, mj_bi_some]
        by_cases he : sv T n (q + 1) = 61
        · have := hs.1 he
          refine ⟨q + 2, 3, 1, 4, 1, by omega, by omega, by decide, Or.inr (Or.inr (Or.inr (Or.inl ⟨rfl, rfl, rfl, by decide, by decide⟩))), ?_, ?_⟩
          · rw [if_pos he, if_neg (by decide), l_R_readSign_100 hw, if_neg (by decide), cst_u7, cst_4, l_R_readSign_117 hw, cst_u4, l_R_readSign_170 hw, wS (by omega)]
          · rw [if_neg (fun z => z he), l_M_advance_316 hw', if_neg (by decide), mst_27, mst_u27, wS (by omega), l_M_advance_331 hw', if_pos (by decide), if_neg (by decide), if_neg (by decide), l_M_advance_369 hw', mst_u30, l_M_advance_372 hw']
        · refine ⟨q + 1, 3, 0, 4, 0, by omega, by omega, by decide, Or.inr (Or.inr (Or.inr (Or.inl ⟨rfl, rfl, rfl, by decide, by decide⟩))), ?_, ?_⟩
          · rw [if_neg he, if_pos rfl, l_R_readSign_100 hw, if_pos rfl, cst_u7, cst_4, l_R_readSign_117 hw, cst_u4, l_R_readSign_170 hw, w_id (by omega), Int.add_zero]
          · rw [if_pos he, l_M_advance_315 hw', l_M_advance_316 hw', if_pos rfl, l_M_advance_331 hw', if_pos (by decide), if_neg (by decide), if_pos rfl, l_M_advance_369 hw', mst_u30, l_M_advance_372 hw']
      · rw [if_pos c3, if_neg ((c0 60 (by decide)).2 c3), if_neg ((c0 61 (by decide)).2 c2)]
        by_cases c4 : T q = 62
        · rw [if_neg (fun z => z c4), (c0 62 (by decide)).1 c4, if_neg (show ¬ ¬ (62 : Int) = 62 by decide), l_M_advance_280 hw', l_M_advance_285 hw', if_neg (show ¬ (62 : Int) = 61 by decide), u_self, if_neg (show ¬ ¬ (4 : Int) = 4 by decide), mst_u29, M_see hw' tp, mj_bi_some]
          by_cases he : sv T n (q + 1) = 61
          · have := hs.1 he
            refine ⟨q + 2, 3, 3, 4, 3, by omega, by omega, by decide, Or.inr (Or.inr (Or.inr (Or.inl ⟨rfl, rfl, rfl, by decide, by decide⟩))), ?_, ?_⟩
            · rw [if_pos he, if_neg (by decide), l_R_readSign_140 hw, if_neg (by decide), cst_u7, cst_4, l_R_readSign_157 hw, cst_u4, l_R_readSign_170 hw, wS (by omega)]
            · rw [if_neg (fun z => z he), l_M_advance_316 hw', if_neg (by decide), mst_27, mst_u27, wS (by omega), l_M_advance_331 hw', if_pos (by decide), if_pos (by decide), if_neg (by decide), l_M_advance_369 hw', mst_u30, l_M_advance_372 hw']
          · refine ⟨q + 1, 3, 4, 4, 4, by omega, by omega, by decide, Or.inr (Or.inr (Or.inr (Or.inl ⟨rfl, rfl, rfl, by decide, by decide⟩))), ?_, ?_⟩
            · rw [if_neg he, if_pos rfl, l_R_readSign_140 hw, if_pos rfl, cst_u7, cst_4, l_R_readSign_157 hw, cst_u4, l_R_readSign_170 hw, w_id (by omega), Int.add_zero]
            · rw [if_pos he, l_M_advance_315 hw', l_M_advance_316 hw', if_pos rfl, l_M_advance_331 hw', if_pos (by decide), if_pos (by decide), if_pos rfl, l_M_advance_369 hw', mst_u30, l_M_advance_372 hw']
        · have d0 := (c0 62 (by decide)).2 c4
          have d1 := (c0 61 (by decide)).2 c2
          have d2 := (c0 60 (by decide)).2 c3
          refine ⟨q + 1, 11, x, 5, 4, by omega, by omega, by decide, Or.inr (Or.inr (Or.inr (Or.inr (Or.inr ⟨rfl, rfl⟩)))), ?_, ?_⟩
          · rw [if_pos c4, l_R_readSign_170 hw]
          · rw [if_pos d0, l_M_advance_285 hw', if_neg d1, u_self, if_pos (by decide), l_M_advance_315 hw', l_M_advance_316 hw', if_pos rfl, l_M_advance_331 hw', if_pos d1, if_pos d2, if_pos rfl, l_M_advance_369 hw', mst_u29, mst_u30, l_M_advance_372 hw']
/-- gaps -/
theorem skip_both (hw : wk sw w) (hw' : wk sw' w') (tp : TP f g T n) {k a x a' t v : Int} : ∀ (m q : Nat), n - q ≤ m → q ≤ n → ∃ b : Nat, q ≤ b ∧ b ≤ n ∧ ¬ (b < n ∧ (T b = 10 ∨ T b = 32)) ∧ mj_run yR_advance w (cst f (q : Int) k a x) 0 [.inr (.inl 3)] [] = mj_run yR_advance w (cst f (b : Int) k a x) 52 [.inr (.inl 3)] [] ∧ mj_run yM_advance w' (mst g (q : Int) a' t v) 0 [.inr (.inl 223), .inr (.inr (.inr 0)), .inr (.inr (.inr 0))] [] = mj_run yM_advance w' (mst g (b : Int) a' t v) 0 [.inr (.inl 223), .inr (.inr (.inr 0)), .inr (.inr (.inr 0))] [] := by
  have hn := tp.1
  have h2 := tp.2.1
  have h4 := tp.2.2.2.1
  have stop : ∀ q : Nat, q ≤ n → ¬ (q < n ∧ (T q = 10 ∨ T q = 32)) → mj_run yR_advance w (cst f (q : Int) k a x) 0 [.inr (.inl 3)] [] = mj_run yR_advance w (cst f (q : Int) k a x) 52 [.inr (.inl 3)] [] := by
    intro q hq he
    rw [l_R_advance_0 hw]
    simp only [cst_3, cst_4, cst_t, h2, Int.toNat_natCast]
    by_cases e1 : (n : Int) ≤ (q : Int)
    · rw [if_pos e1]
    · rw [if_neg e1, mj_gd_pos (by omega), h4 q (by omega), if_neg (by omega), mj_gd_pos (by omega), if_pos (by omega)]
  intro m
  induction m with
  | zero =>
    intro q hm hq
    exact ⟨q, Nat.le_refl _, hq, by omega, stop q hq (by omega), rfl⟩
  | succ m ih =>
    intro q hm hq
    by_cases hl : q < n ∧ (T q = 10 ∨ T q = 32)
    · obtain ⟨b, e1, e2, e3, e4, e5⟩ := ih (q + 1) (by omega) (by omega)
      refine ⟨b, by omega, e2, e3, ?_, ?_⟩
      · refine Eq.trans ?_ e4
        rw [l_R_advance_0 hw]
        simp only [cst_3, cst_4, cst_t, h2, Int.toNat_natCast]
        rw [if_neg (by omega), mj_gd_pos (by omega), h4 q hl.1]
        have e39 : mj_run yR_advance w (cst f (q : Int) k a x) 39 [.inr (.inl 3)] [] = mj_run yR_advance w (cst f ((q + 1 : Nat) : Int) k a x) 0 [.inr (.inl 3)] [] := by
          rw [l_R_advance_39 hw, cst_4, cst_u4, wS (by omega)]
        by_cases z : T q = 10
        · rw [if_pos z, e39]
        · rw [if_neg z, mj_gd_pos (by omega), if_neg (by omega), e39]
      · refine Eq.trans ?_ e5
        have e18 : mj_run yM_advance w' (mst g (q : Int) a' t v) 18 [.inr (.inl 223), .inr (.inr (.inr 0)), .inr (.inr (.inr 0))] [] = mj_run yM_advance w' (mst g ((q + 1 : Nat) : Int) a' t v) 0 [.inr (.inl 223), .inr (.inr (.inr 0)), .inr (.inr (.inr 0))] [] := by
          rw [l_M_advance_18 hw', mst_27, mst_u27, wS (by omega)]
        rw [l_M_advance_0 hw', M_see hw' tp, mj_bi_some]
        by_cases z : T q = 32
        · rw [if_pos ((sv_eq tp 32 (by decide)).2 ⟨hl.1, z⟩), e18]
        · rw [if_neg (fun y => z ((sv_eq tp 32 (by decide)).1 y).2), M_see hw' tp, mj_bi_some, if_neg (fun y => y ((sv_eq tp 10 (by decide)).2 ⟨hl.1, by omega⟩)), e18]
    · exact ⟨q, Nat.le_refl _, hq, hl, stop q hq hl, rfl⟩
/-- one token on, in both -/
theorem adv_both (hw : wk sw w) (hw' : wk sw' w') (tp : TP f g T n) {k a x a' t v : Int} {q : Nat} (hq : q ≤ n) : ∃ (p b : Nat) (k' x' t' v' : Int), q ≤ b ∧ b ≤ p ∧ p ≤ n ∧ (k' ≠ 0 → b < p) ∧ TK k' x' t' v' ∧ mj_call yR_advance w (cst f (q : Int) k a x) [.inr (.inl 3)] = some (w, cst f (p : Int) k' (b : Int) x', none) ∧ mj_call yM_advance w' (mst g (q : Int) a' t v) [.inr (.inl 223)] = some (w', mst g (p : Int) (b : Int) t' v', none) := by
  have hn := tp.1
  have h2 := tp.2.1
  have h4 := tp.2.2.2.1
  obtain ⟨b, e1, e2, e3, e4, e5⟩ := skip_both hw hw' tp (k := k) (a := a) (x := x) (a' := a') (t := t) (v := v) n q (by omega) hq
  have eX : mj_call yR_advance w (cst f (q : Int) k a x) [.inr (.inl 3)] = mj_run yR_advance w (cst f (q : Int) k a x) 0 [.inr (.inl 3)] [] := rfl
  have eM : mj_call yM_advance w' (mst g (q : Int) a' t v) [.inr (.inl 223)] = mj_run yM_advance w' (mst g (q : Int) a' t v) 0 [.inr (.inl 223), .inr (.inr (.inr 0)), .inr (.inr (.inr 0))] [] := rfl
  rw [eX, eM, e4, e5]
  rw [l_R_advance_52 hw]
  simp only [cst_4, cst_u6, cst_u5, cst_3, cst_t, h2, Int.toNat_natCast]
  rw [l_M_advance_0 hw', M_see hw' tp, mj_bi_some, if_neg (fun y => e3 ⟨((sv_eq tp 32 (by decide)).1 y).1, Or.inr ((sv_eq tp 32 (by decide)).1 y).2⟩), M_see hw' tp, mj_bi_some, if_pos (fun y => e3 ⟨((sv_eq tp 10 (by decide)).1 y).1, Or.inl ((sv_eq tp 10 (by decide)).1 y).2⟩), mst_27, mst_u28, M_see hw' tp, mj_bi_some, mst_u30]
  by_cases hb : b < n
  · have hsv : ¬ sv T n b = -1 := by
      have := tp.2.2.2.2.2 b hb
      unfold sv bu
      rw [if_pos hb]
      split <;> omega
    rw [if_pos (show (b : Int) < (n : Int) by omega), mj_gd_pos (by omega), h4 b hb, if_pos hsv, M_isIn hw', mj_bi_some]
    by_cases hl : 97 ≤ T b ∧ T b ≤ 122
    · obtain ⟨p, k', x', t', v', c1, c2, c3, c4, c5, c6⟩ := word_both hw hw' tp (sv T n b) (k := k) (t := t) (a := b) n b 0 0 (by omega) (Nat.le_refl _) e2 (fun _ => rfl)
      refine ⟨p, b, k', x', t', v', e1, c1, c2, fun _ => c3 ⟨hb, hl⟩, c4, ?_, ?_⟩
      · rw [if_neg (by omega), mj_gd_pos (by omega), if_neg (by omega), c_R_readWord hw, cst_u7, c5, mj_bu_some, l_R_advance_153 hw]
      · rw [if_pos ((sv_in tp 97 122 (by decide) (by decide)).2 ⟨hb, hl⟩), if_neg (by decide)]
        exact c6
    · rw [if_neg (fun z => hl ((sv_in tp 97 122 (by decide) (by decide)).1 z).2), if_pos rfl, M_isIn hw', mj_bi_some]
      have e114 : (if T b < 97 then mj_run yR_advance w (cst f (b : Int) k (b : Int) x) 114 [.inr (.inl 3)] [] else mj_gd (0 ≤ (b : Int) ∧ (b : Int) < ((900 : Nat) : Int)) (if 122 < T b then mj_run yR_advance w (cst f (b : Int) k (b : Int) x) 114 [.inr (.inl 3)] [] else mj_bu (mj_call yR_readWord w (cst f (b : Int) k (b : Int) x) [.inr (.inl 3)]) (fun f7 => mj_run yR_advance w f7 153 [.inr (.inl 3)] []))) = mj_run yR_advance w (cst f (b : Int) k (b : Int) x) 114 [.inr (.inl 3)] [] := by
        by_cases z : T b < 97
        · rw [if_pos z]
        · rw [if_neg z, mj_gd_pos (by omega), if_pos (by omega)]
      rw [e114, l_R_advance_114 hw]
      simp only [cst_4, cst_t, Int.toNat_natCast]
      rw [mj_gd_pos (by omega), h4 b hb]
      by_cases hd : 48 ≤ T b ∧ T b ≤ 57
      · obtain ⟨p, x', v', c1, c2, c3, c4, c5, c6⟩ := dig_both hw hw' tp (sv T n b) (k := 2) (a := (b : Int)) (t := 2) n b 0 0 (by omega) e2 (Or.inl ⟨rfl, by decide, by decide⟩)
        refine ⟨p, b, 2, x', 2, v', e1, c1, c2, fun _ => c3 ⟨hb, hd⟩, Or.inr (Or.inr (Or.inl ⟨rfl, rfl, ?_⟩)), ?_, ?_⟩
        · unfold NV at c4; omega
        · rw [if_neg (by omega), mj_gd_pos (by omega), if_neg (by omega), c_R_readDigits hw, cst_u5, cst_u7, c5, mj_bu_some, l_R_advance_153 hw]
        · rw [if_pos ((sv_in tp 48 57 (by decide) (by decide)).2 ⟨hb, hd⟩), if_neg (by decide), mst_u29]
          exact c6
      · rw [if_neg (fun z => hd ((sv_in tp 48 57 (by decide) (by decide)).1 z).2), if_pos rfl, mst_27, mst_u27, wS (by omega)]
        obtain ⟨p, k', x', t', v', c1, c2, c3, c4, c5, c6⟩ := sign_both hw hw' tp (k := k) (a := (b : Int)) (x := x) (t := t) (v := 0) hb
        have e149 : (if T b < 48 then mj_run yR_advance w (cst f (b : Int) k (b : Int) x) 149 [.inr (.inl 3)] [] else mj_gd (0 ≤ (b : Int) ∧ (b : Int) < ((900 : Nat) : Int)) (if 57 < T b then mj_run yR_advance w (cst f (b : Int) k (b : Int) x) 149 [.inr (.inl 3)] [] else mj_bu (mj_call yR_readDigits w (cst f (b : Int) k (b : Int) x) [.inr (.inl 3)]) (fun f10 => mj_run yR_advance w f10 153 [.inr (.inl 3)] []))) = mj_run yR_advance w (cst f (b : Int) k (b : Int) x) 149 [.inr (.inl 3)] [] := by
          by_cases z : T b < 48
          · rw [if_pos z]
          · rw [if_neg z, mj_gd_pos (by omega), if_pos (by omega)]
        refine ⟨p, b, k', x', t', v', e1, by omega, c2, fun _ => c1, c4, ?_, c6⟩
        rw [e149, l_R_advance_149 hw, c5, mj_bu_some, l_R_advance_153 hw]
  · have hsv : sv T n b = -1 := by unfold sv; rw [if_neg hb]
    refine ⟨b, b, 0, x, 0, 0, e1, Nat.le_refl _, e2, fun z => absurd rfl z, Or.inl ⟨rfl, rfl⟩, ?_, ?_⟩
    · rw [if_neg (by omega), l_R_advance_153 hw]
    · rw [if_neg (fun z => z hsv), mst_u29, l_M_advance_372 hw']
end TOK2
