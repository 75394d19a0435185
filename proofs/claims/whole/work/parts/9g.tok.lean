/-! The reader of a text, in both: one token on. -/
/-- the class's reader stands at p, its token of kind k begins at b, with the number x -/
def cst (f : mj_F) (p k b x : Int) : mj_F := fun a q => if a = 3 then (if q = 4 then p else if q = 5 then k else if q = 6 then b else if q = 7 then x else f 3 q) else f a q
/-- the reference's -/
def mst (f : mj_F) (p b t v : Int) : mj_F := fun a q => if a = 223 then (if q = 27 then p else if q = 28 then b else if q = 29 then t else if q = 30 then v else f 223 q) else f a q
section CST
variable {f : mj_F} {p k b x t v y : Int}
theorem cst_o {a q : Nat} (h : a ≠ 3) : cst f p k b x a q = f a q := by unfold cst; rw [if_neg h]
theorem cst_t : cst f p k b x 4 = f 4 := by funext q; exact cst_o (by decide)
theorem cst_3 : cst f p k b x 3 3 = f 3 3 := by unfold cst; rw [if_pos rfl, if_neg (by decide), if_neg (by decide), if_neg (by decide), if_neg (by decide)]
theorem cst_4 : cst f p k b x 3 4 = p := by unfold cst; rw [if_pos rfl, if_pos rfl]
theorem cst_5 : cst f p k b x 3 5 = k := by unfold cst; rw [if_pos rfl, if_neg (by decide), if_pos rfl]
theorem cst_6 : cst f p k b x 3 6 = b := by unfold cst; rw [if_pos rfl, if_neg (by decide), if_neg (by decide), if_pos rfl]
theorem cst_7 : cst f p k b x 3 7 = x := by unfold cst; rw [if_pos rfl, if_neg (by decide), if_neg (by decide), if_neg (by decide), if_pos rfl]
theorem mst_o {a q : Nat} (h : a ≠ 223) : mst f p b t v a q = f a q := by unfold mst; rw [if_neg h]
theorem mst_t : mst f p b t v 240 = f 240 := by funext q; exact mst_o (by decide)
theorem mst_26 : mst f p b t v 223 26 = f 223 26 := by unfold mst; rw [if_pos rfl, if_neg (by decide), if_neg (by decide), if_neg (by decide), if_neg (by decide)]
theorem mst_27 : mst f p b t v 223 27 = p := by unfold mst; rw [if_pos rfl, if_pos rfl]
theorem mst_28 : mst f p b t v 223 28 = b := by unfold mst; rw [if_pos rfl, if_neg (by decide), if_pos rfl]
theorem mst_29 : mst f p b t v 223 29 = t := by unfold mst; rw [if_pos rfl, if_neg (by decide), if_neg (by decide), if_pos rfl]
theorem mst_30 : mst f p b t v 223 30 = v := by unfold mst; rw [if_pos rfl, if_neg (by decide), if_neg (by decide), if_neg (by decide), if_pos rfl]
theorem cst_u4 : mj_u (cst f p k b x) 3 4 y = cst f y k b x := by
  funext a q
  unfold mj_u cst
  by_cases h : a = 3
  · by_cases h1 : q = 4
    · subst h1; rw [if_pos ⟨h, rfl⟩, if_pos h]; rfl
    · rw [if_neg (fun z => h1 z.2), if_pos h, if_pos h]
      simp only [if_neg h1]
  · rw [if_neg (fun z => h z.1), if_neg h, if_neg h]
theorem cst_u5 : mj_u (cst f p k b x) 3 5 y = cst f p y b x := by
  funext a q
  unfold mj_u cst
  by_cases h : a = 3
  · by_cases h1 : q = 5
    · subst h1; rw [if_pos ⟨h, rfl⟩, if_pos h]; rfl
    · rw [if_neg (fun z => h1 z.2), if_pos h, if_pos h]
      simp only [if_neg h1]
  · rw [if_neg (fun z => h z.1), if_neg h, if_neg h]
theorem cst_u6 : mj_u (cst f p k b x) 3 6 y = cst f p k y x := by
  funext a q
  unfold mj_u cst
  by_cases h : a = 3
  · by_cases h1 : q = 6
    · subst h1; rw [if_pos ⟨h, rfl⟩, if_pos h]; rfl
    · rw [if_neg (fun z => h1 z.2), if_pos h, if_pos h]
      simp only [if_neg h1]
  · rw [if_neg (fun z => h z.1), if_neg h, if_neg h]
theorem cst_u7 : mj_u (cst f p k b x) 3 7 y = cst f p k b y := by
  funext a q
  unfold mj_u cst
  by_cases h : a = 3
  · by_cases h1 : q = 7
    · subst h1; rw [if_pos ⟨h, rfl⟩, if_pos h]; rfl
    · rw [if_neg (fun z => h1 z.2), if_pos h, if_pos h]
      simp only [if_neg h1]
  · rw [if_neg (fun z => h z.1), if_neg h, if_neg h]
theorem cst_id : cst f (f 3 4) (f 3 5) (f 3 6) (f 3 7) = f := by
  funext a q
  unfold cst
  by_cases h : a = 3
  · subst h
    rw [if_pos rfl]
    by_cases h1 : q = 4
    · rw [if_pos h1, h1]
    · by_cases h2 : q = 5
      · rw [if_neg h1, if_pos h2, h2]
      · by_cases h3 : q = 6
        · rw [if_neg h1, if_neg h2, if_pos h3, h3]
        · by_cases h4 : q = 7
          · rw [if_neg h1, if_neg h2, if_neg h3, if_pos h4, h4]
          · rw [if_neg h1, if_neg h2, if_neg h3, if_neg h4]
  · rw [if_neg h]
theorem mst_u27 : mj_u (mst f p b t v) 223 27 y = mst f y b t v := by
  funext a q
  unfold mj_u mst
  by_cases h : a = 223
  · by_cases h1 : q = 27
    · subst h1; rw [if_pos ⟨h, rfl⟩, if_pos h]; rfl
    · rw [if_neg (fun z => h1 z.2), if_pos h, if_pos h]
      simp only [if_neg h1]
  · rw [if_neg (fun z => h z.1), if_neg h, if_neg h]
theorem mst_u28 : mj_u (mst f p b t v) 223 28 y = mst f p y t v := by
  funext a q
  unfold mj_u mst
  by_cases h : a = 223
  · by_cases h1 : q = 28
    · subst h1; rw [if_pos ⟨h, rfl⟩, if_pos h]; rfl
    · rw [if_neg (fun z => h1 z.2), if_pos h, if_pos h]
      simp only [if_neg h1]
  · rw [if_neg (fun z => h z.1), if_neg h, if_neg h]
theorem mst_u29 : mj_u (mst f p b t v) 223 29 y = mst f p b y v := by
  funext a q
  unfold mj_u mst
  by_cases h : a = 223
  · by_cases h1 : q = 29
    · subst h1; rw [if_pos ⟨h, rfl⟩, if_pos h]; rfl
    · rw [if_neg (fun z => h1 z.2), if_pos h, if_pos h]
      simp only [if_neg h1]
  · rw [if_neg (fun z => h z.1), if_neg h, if_neg h]
theorem mst_u30 : mj_u (mst f p b t v) 223 30 y = mst f p b t y := by
  funext a q
  unfold mj_u mst
  by_cases h : a = 223
  · by_cases h1 : q = 30
    · subst h1; rw [if_pos ⟨h, rfl⟩, if_pos h]; rfl
    · rw [if_neg (fun z => h1 z.2), if_pos h, if_pos h]
      simp only [if_neg h1]
  · rw [if_neg (fun z => h z.1), if_neg h, if_neg h]
theorem mst_id : mst f (f 223 27) (f 223 28) (f 223 29) (f 223 30) = f := by
  funext a q
  unfold mst
  by_cases h : a = 223
  · subst h
    rw [if_pos rfl]
    by_cases h1 : q = 27
    · rw [if_pos h1, h1]
    · by_cases h2 : q = 28
      · rw [if_neg h1, if_pos h2, h2]
      · by_cases h3 : q = 29
        · rw [if_neg h1, if_neg h2, if_pos h3, h3]
        · by_cases h4 : q = 30
          · rw [if_neg h1, if_neg h2, if_neg h3, if_pos h4, h4]
          · rw [if_neg h1, if_neg h2, if_neg h3, if_neg h4]
  · rw [if_neg h]
end CST
theorem and255_all : ∀ k : Fin 256, mj_and ((k.val : Int) - 128) 255 = if (k.val : Int) - 128 < 0 then (k.val : Int) - 128 + 256 else (k.val : Int) - 128 := by decide +kernel
def bu (x : Int) : Int := if x < 0 then x + 256 else x
theorem and_255 {x : Int} (h : -128 ≤ x ∧ x < 128) : mj_and x 255 = bu x := by
  have a := and255_all ⟨(x + 128).toNat, by omega⟩
  have e : (((x + 128).toNat : Nat) : Int) - 128 = x := by omega
  dsimp only at a
  rw [e] at a
  exact a
theorem and31_all : ∀ k : Fin 26, mj_and ((k.val : Int) + 97) 31 = (k.val : Int) + 1 := by decide +kernel
theorem and_31 {x : Int} (h : 97 ≤ x ∧ x ≤ 122) : mj_and x 31 = mj_w (x - 96) := by
  have a := and31_all ⟨(x - 97).toNat, by omega⟩
  have e : (((x - 97).toNat : Nat) : Int) + 97 = x := by omega
  dsimp only at a
  rw [e] at a
  rw [a, w_id (by omega)]
  omega
/-- what is seen at q -/
def sv (T : Nat → Int) (n q : Nat) : Int := if q < n then bu (T q) else -1
def kwK (v : Int) : Int := if v = 3554411 then 5 else if v = 17171557 then 6 else if v = 168165 then 7 else if v = 20579924 then 8 else if v = 762030 then 9 else if v = 19636 then 10 else 1
/-- the class's token against the reference's -/
def TK (k x t v : Int) : Prop := (k = 0 ∧ t = 0) ∨ (k = kwK v ∧ t = 1 ∧ x = v) ∨ (k = 2 ∧ t = 2 ∧ ((x = v ∧ 0 ≤ v ∧ v ≤ 50) ∨ (x = 51 ∧ 50 < v))) ∨ (k = 3 ∧ t = 4 ∧ x = v ∧ 0 ≤ v ∧ v ≤ 4) ∨ (k = 4 ∧ t = 3) ∨ (k = 11 ∧ t = 5)
theorem kwK_0 (v : Int) : kwK v ≠ 0 := by unfold kwK; (repeat' split) <;> decide
/-- the same tape, up to n -/
def TP (f g : mj_F) (T : Nat → Int) (n : Nat) : Prop := n ≤ 900 ∧ f 3 3 = (n : Int) ∧ g 223 26 = (n : Int) ∧ (∀ i, i < n → f 4 i = T i) ∧ (∀ i, i < n → g 240 i = T i) ∧ ∀ i, i < n → -128 ≤ T i ∧ T i < 128
section TOK
variable {sw sw' : Bool} {w w' : mj_W} {f g : mj_F} {T : Nat → Int} {n : Nat}
theorem M_see (hw' : wk sw' w') (tp : TP f g T n) (q : Nat) (b t v : Int) : mj_call yM_see w' (mst g (q : Int) b t v) [.inr (.inl 223)] = some (w', mst g (q : Int) b t v, some (.inl (sv T n q))) := by
  obtain ⟨h1, h2, h3, h4, h5, h6⟩ := tp
  rw [c_M_see hw', mst_26, mst_27, mst_t, h3]
  unfold sv
  by_cases h : q < n
  · rw [if_neg (by omega), mj_gd_pos (by omega), Int.toNat_natCast, h5 q h, and_255 (h6 q h), if_pos h]
  · rw [if_pos (by omega), if_neg h]
theorem sv_in (tp : TP f g T n) {q : Nat} (l h : Int) (hl : 0 ≤ l) (hh : h < 128) : (l ≤ sv T n q ∧ sv T n q ≤ h) ↔ (q < n ∧ l ≤ T q ∧ T q ≤ h) := by
  have h6 := tp.2.2.2.2.2 q
  unfold sv bu
  by_cases hq : q < n
  · have := h6 hq
    rw [if_pos hq]
    constructor
    · intro z; refine ⟨hq, ?_⟩; split at z <;> omega
    · intro z; split <;> omega
  · rw [if_neg hq]
    constructor
    · intro z; omega
    · intro z; exact absurd z.1 hq
theorem sv_eq (tp : TP f g T n) {q : Nat} (l : Int) (hl : 0 ≤ l ∧ l < 128) : sv T n q = l ↔ (q < n ∧ T q = l) := by
  have := sv_in tp (q := q) l l hl.1 hl.2
  omega
/-- a word's end, in the class -/
theorem R_word_e (hw : wk sw w) (tp : TP f g T n) {q a : Nat} {k x : Int} (ha : a ≤ q) (hq : q ≤ n) (he : ¬ (q < n ∧ 97 ≤ T q ∧ T q ≤ 122)) : mj_run yR_readWord w (cst f (q : Int) k (a : Int) x) 5 [.inr (.inl 3)] [] = some (w, cst f (q : Int) (if (q : Int) - (a : Int) ≤ 6 then kwK x else 11) (a : Int) x, none) := by
  obtain ⟨h1, h2, h3, h4, h5, h6⟩ := tp
  rw [l_R_readWord_5 hw]
  simp only [cst_u5, cst_3, cst_4, cst_6, cst_7, cst_t, h2, Int.toNat_natCast]
  rw [show mj_w ((q : Int) - (a : Int)) = (q : Int) - (a : Int) from w_id (by omega)]
  have tail : (if (q : Int) - (a : Int) ≤ 6 then if ¬ x = 3554411 then if ¬ x = 17171557 then if ¬ x = 168165 then if ¬ x = 20579924 then if ¬ x = 762030 then if ¬ x = 19636 then some (w, cst f (q : Int) 1 (a : Int) x, none) else some (w, cst f (q : Int) 10 (a : Int) x, none) else some (w, cst f (q : Int) 9 (a : Int) x, none) else some (w, cst f (q : Int) 8 (a : Int) x, none) else some (w, cst f (q : Int) 7 (a : Int) x, none) else some (w, cst f (q : Int) 6 (a : Int) x, none) else some (w, cst f (q : Int) 5 (a : Int) x, none) else some (w, cst f (q : Int) 11 (a : Int) x, none) : Option mj_O) = some (w, cst f (q : Int) (if (q : Int) - (a : Int) ≤ 6 then kwK x else 11) (a : Int) x, none) := by
    unfold kwK
    by_cases h6 : (q : Int) - (a : Int) ≤ 6
    · rw [if_pos h6, if_pos h6]
      by_cases c1 : x = 3554411
      · rw [if_neg (fun z => z c1), if_pos c1]
      · rw [if_pos c1, if_neg c1]
        by_cases c2 : x = 17171557
        · rw [if_neg (fun z => z c2), if_pos c2]
        · rw [if_pos c2, if_neg c2]
          by_cases c3 : x = 168165
          · rw [if_neg (fun z => z c3), if_pos c3]
          · rw [if_pos c3, if_neg c3]
            by_cases c4 : x = 20579924
            · rw [if_neg (fun z => z c4), if_pos c4]
            · rw [if_pos c4, if_neg c4]
              by_cases c5 : x = 762030
              · rw [if_neg (fun z => z c5), if_pos c5]
              · rw [if_pos c5, if_neg c5]
                by_cases c6 : x = 19636
                · rw [if_neg (fun z => z c6), if_pos c6]
                · rw [if_pos c6, if_neg c6]
    · rw [if_neg h6, if_neg h6]
  by_cases e1 : (n : Int) ≤ (q : Int)
  · rw [if_pos e1]; exact tail
  · rw [if_neg e1, mj_gd_pos (by omega), h4 q (by omega)]
    by_cases e2 : T q < 97
    · rw [if_pos e2]; exact tail
    · rw [if_neg e2, mj_gd_pos (by omega)]
      have e3 : 122 < T q := by omega
      rw [if_pos e3]; exact tail
theorem R_word_s (hw : wk sw w) (tp : TP f g T n) {q a : Nat} {k x : Int} (hq : q < n) (he : 97 ≤ T q ∧ T q ≤ 122) : mj_run yR_readWord w (cst f (q : Int) k (a : Int) x) 5 [.inr (.inl 3)] [] = mj_run yR_readWord w (cst f ((q + 1 : Nat) : Int) k (a : Int) (mj_or (mj_shl x 5) (mj_w (T q - 96)))) 5 [.inr (.inl 3)] [] := by
  obtain ⟨h1, h2, h3, h4, h5, h6⟩ := tp
  rw [l_R_readWord_5 hw]
  simp only [cst_u7, cst_u4, cst_3, cst_4, cst_7, cst_t, h2, Int.toNat_natCast]
  rw [if_neg (by omega), mj_gd_pos (by omega), h4 q hq, if_neg (by omega), mj_gd_pos (by omega), if_neg (by omega), mj_gd_pos (by omega), and_31 he, wS (by omega)]
theorem M_word_e (hw' : wk sw' w') (tp : TP f g T n) {q a : Nat} {t v : Int} (s : Int) (ha : a ≤ q) (hq : q ≤ n) (he : ¬ (q < n ∧ 97 ≤ T q ∧ T q ≤ 122)) : mj_run yM_advance w' (mst g (q : Int) (a : Int) t v) 73 [.inr (.inl 223), .inl s, .inr (.inr (.inr 0))] [] = some (w', mst g (q : Int) (a : Int) (if (q : Int) - (a : Int) ≤ 6 then 1 else 5) v, none) := by
  have h1 := tp.1
  rw [l_M_advance_73 hw', M_see hw' tp, mj_bi_some, M_isIn hw', mj_bi_some, if_neg (fun z => he ((sv_in tp 97 122 (by decide) (by decide)).1 z)), if_pos rfl, mst_27, mst_28, show mj_w ((q : Int) - (a : Int)) = (q : Int) - (a : Int) from w_id (by omega)]
  by_cases h6 : (q : Int) - (a : Int) ≤ 6
  · rw [if_neg (by omega), if_pos h6, l_M_advance_156 hw', mst_u29, l_M_advance_372 hw']
  · rw [if_pos (by omega), if_neg h6, l_M_advance_156 hw', mst_u29, l_M_advance_372 hw']
theorem M_word_s (hw' : wk sw' w') (tp : TP f g T n) {q a : Nat} {t v : Int} (s : Int) (ha : a ≤ q) (hq : q < n) (he : 97 ≤ T q ∧ T q ≤ 122) : mj_run yM_advance w' (mst g (q : Int) (a : Int) t v) 73 [.inr (.inl 223), .inl s, .inr (.inr (.inr 0))] [] = mj_run yM_advance w' (mst g ((q + 1 : Nat) : Int) (a : Int) t (if 6 ≤ (q : Int) - (a : Int) then 0 else mj_or (mj_shl v 5) (mj_w (T q - 96)))) 73 [.inr (.inl 223), .inl s, .inr (.inr (.inr 0))] [] := by
  have h1 := tp.1
  have hs : sv T n q = T q := (sv_eq tp (T q) (by omega)).2 ⟨hq, rfl⟩
  rw [l_M_advance_73 hw', M_see hw' tp, mj_bi_some, M_isIn hw', mj_bi_some, if_pos ((sv_in tp 97 122 (by decide) (by decide)).2 ⟨hq, he⟩), if_neg (by decide), mst_27, mst_28, show mj_w ((q : Int) - (a : Int)) = (q : Int) - (a : Int) from w_id (by omega)]
  by_cases h6 : 6 ≤ (q : Int) - (a : Int)
  · rw [if_pos h6, if_pos h6, l_M_advance_120 hw', mst_u30, mst_27, mst_u27, wS (by omega)]
  · rw [if_neg h6, if_neg h6, M_see hw' tp, mj_bi_some, l_M_advance_120 hw', mst_u30, mst_27, mst_u27, wS (by omega), mst_30, hs]
theorem word_both (hw : wk sw w) (hw' : wk sw' w') (tp : TP f g T n) (s : Int) {a : Nat} {k t : Int} : ∀ (m q : Nat) (x v : Int), n - q ≤ m → a ≤ q → q ≤ n → (q - a ≤ 6 → x = v) → ∃ (p : Nat) (k' x' t' v' : Int), q ≤ p ∧ p ≤ n ∧ (q < n ∧ 97 ≤ T q ∧ T q ≤ 122 → q < p) ∧ TK k' x' t' v' ∧ mj_run yR_readWord w (cst f (q : Int) k (a : Int) x) 5 [.inr (.inl 3)] [] = some (w, cst f (p : Int) k' (a : Int) x', none) ∧ mj_run yM_advance w' (mst g (q : Int) (a : Int) t v) 73 [.inr (.inl 223), .inl s, .inr (.inr (.inr 0))] [] = some (w', mst g (p : Int) (a : Int) t' v', none) := by
  intro m
  induction m with
  | zero =>
    intro q x v hm ha hq hx
    refine ⟨q, _, _, _, _, Nat.le_refl _, hq, fun z => by omega, ?_, R_word_e hw tp ha hq (by omega), M_word_e hw' tp s ha hq (by omega)⟩
    by_cases h6 : (q : Int) - (a : Int) ≤ 6
    · rw [if_pos h6, if_pos h6, hx (by omega)]; exact Or.inr (Or.inl ⟨rfl, rfl, rfl⟩)
    · rw [if_neg h6, if_neg h6]; exact Or.inr (Or.inr (Or.inr (Or.inr (Or.inr ⟨rfl, rfl⟩))))
  | succ m ih =>
    intro q x v hm ha hq hx
    by_cases hl : q < n ∧ 97 ≤ T q ∧ T q ≤ 122
    · obtain ⟨p, k', x', t', v', e1, e2, _, e4, e5, e6⟩ := ih (q + 1) (mj_or (mj_shl x 5) (mj_w (T q - 96))) (if 6 ≤ (q : Int) - (a : Int) then 0 else mj_or (mj_shl v 5) (mj_w (T q - 96))) (by omega) (by omega) (by omega) (fun z => by rw [if_neg (by omega), hx (by omega)])
      exact ⟨p, k', x', t', v', by omega, e2, fun _ => by omega, e4, (R_word_s hw tp hl.1 hl.2).trans e5, (M_word_s hw' tp s ha hl.1 hl.2).trans e6⟩
    · refine ⟨q, _, _, _, _, Nat.le_refl _, hq, fun z => absurd z hl, ?_, R_word_e hw tp ha hq hl, M_word_e hw' tp s ha hq hl⟩
      by_cases h6 : (q : Int) - (a : Int) ≤ 6
      · rw [if_pos h6, if_pos h6, hx (by omega)]; exact Or.inr (Or.inl ⟨rfl, rfl, rfl⟩)
      · rw [if_neg h6, if_neg h6]; exact Or.inr (Or.inr (Or.inr (Or.inr (Or.inr ⟨rfl, rfl⟩))))
end TOK
