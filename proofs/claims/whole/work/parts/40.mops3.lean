/-! The reference: backs, roughens, isFar. -/
theorem um_same {A : Mt} {i j : Nat} : um A i j (A i j) = A := by
  funext x y
  unfold um
  split
  · next h => rw [h.1, h.2]
  · rfl
section RR
variable {sw : Bool} {w : mj_W}
theorem M_numberOf (hw : wk sw w) (F : mj_F) (b : Int) : mj_call yM_numberOf w F [.inl b] = some (w, F, some (.inl (mj_shr b 1))) := c_M_numberOf hw F b
theorem M_isIn (hw : wk sw w) (F : mj_F) (x l h : Int) : mj_call yM_isIn w F [.inl x, .inl l, .inl h] = some (w, F, some (.inl (if l ≤ x ∧ x ≤ h then 1 else 0))) := by
  rw [c_M_isIn hw]
  by_cases h1 : x < l
  · rw [if_pos h1, if_neg (by omega)]
  · rw [if_neg h1]
    by_cases h2 : h < x
    · rw [if_pos h2, if_neg (by omega)]
    · rw [if_neg h2, if_pos (by omega)]
/-- ROUGH of one bound -/
def rrb (b x y : Int) : Int := if b < 1000000 then (if mj_shr b 1 ≤ x then (if mj_w (-y) ≤ mj_shr b 1 then b else mj_w ((-2) * y)) else 1000000) else b
def rrg (f : mj_F) (n k l : Nat) (A : Mt) : Mt := fun i j => if (i < k ∧ j < n ∨ i = k ∧ j < l) ∧ i ≠ j then rrb (A i j) (f 233 i) (f 233 j) else A i j
theorem R_roughens (hw : wk sw w) (f : mj_F) {n : Nat} (hn : n ≤ 5) (q : Int × Mt) (hv : q.1 = 0 ∨ q.1 = 1) : mj_call yM_roughens w (rq f n q.1 q.2) [.inr (.inl 223)] = if q.1 = 0 then some (w, rq f n (rcl n (q.1, rrg f n n 0 q.2)).1 (rcl n (q.1, rrg f n n 0 q.2)).2, none) else some (w, rq f n q.1 q.2, none) := by
  rw [c_M_roughens hw, rq_v]
  by_cases hv0 : q.1 = 0
  · rw [if_pos hv0, if_pos hv0]
    obtain ⟨u, h⟩ : ∃ u : mj_V × mj_V, mj_run yM_roughens w (rq f n q.1 (rrg f n 0 0 q.2)) 10 [.inr (.inl 223), .inl ((0 : Nat) : Int), .inr (.inr (.inr 0)), .inr (.inr (.inr 0))] [] = mj_run yM_roughens w (rq f n q.1 (rrg f n n 0 q.2)) 10 [.inr (.inl 223), .inl (n : Int), u.1, u.2] [] := by
      have := loop_ex (fun k (_ : Unit) (u : mj_V × mj_V) => mj_run yM_roughens w (rq f n q.1 (rrg f n k 0 q.2)) 10 [.inr (.inl 223), .inl (k : Int), u.1, u.2] []) (fun _ a => a) n (fun k _ u hk => by
        rw [l_M_roughens_10 hw, rq_n, if_neg (by omega)]
        have hin : ∃ u', mj_run yM_roughens w (rq f n q.1 (rrg f n k 0 q.2)) 20 [.inr (.inl 223), .inl (k : Int), .inl ((0 : Nat) : Int), u.2] [] = mj_run yM_roughens w (rq f n q.1 (rrg f n k n q.2)) 20 [.inr (.inl 223), .inl (k : Int), .inl (n : Int), u'] [] := by
          have := loop_ex (fun l (_ : Unit) (u : mj_V) => mj_run yM_roughens w (rq f n q.1 (rrg f n k l q.2)) 20 [.inr (.inl 223), .inl (k : Int), .inl (l : Int), u] []) (fun _ a => a) n (fun l _ u hl => by
            have r : rrg f n k l q.2 k l = q.2 k l := by
              unfold rrg
              rw [if_neg (by omega)]
            have gk : (0 : Int) ≤ (k : Int) ∧ (k : Int) < ((5 : Nat) : Int) := ⟨by omega, by omega⟩
            have gl : (0 : Int) ≤ (l : Int) ∧ (l : Int) < ((5 : Nat) : Int) := ⟨by omega, by omega⟩
            have hstep : ∀ b : Int, k ≠ l → b = rrb (q.2 k l) (f 233 k) (f 233 l) → um (rrg f n k l q.2) k l b = rrg f n k (l + 1) q.2 := by
              intro b hkl hb
              funext i j
              unfold um rrg
              by_cases hx : i = k ∧ j = l
              · rw [if_pos hx, if_pos (by omega), hx.1, hx.2, hb]
              · rw [if_neg hx]
                exact ifc (by omega) rfl rfl
            refine ⟨.inl (q.2 k l), ?_⟩
            rw [l_M_roughens_20 hw, rq_n, if_neg (by omega), R_get hw f n q.1 _ (by omega) (by omega), mj_bi_some, r]
            by_cases hkl : k = l
            · rw [if_pos (by omega), wS (by omega)]
              congr 2
              funext i j
              unfold rrg
              exact ifc (by omega) rfl rfl
            · rw [if_neg (by omega)]
              by_cases hb : q.2 k l < 1000000
              · rw [if_pos hb, M_numberOf hw, mj_bi_some, mj_gd_pos gk, Int.toNat_natCast, rq_o (by decide) (by decide)]
                by_cases h1 : mj_shr (q.2 k l) 1 ≤ f 233 k
                · rw [if_pos h1, M_numberOf hw, mj_bi_some, mj_gd_pos gl, Int.toNat_natCast, rq_o (by decide) (by decide)]
                  by_cases h2 : mj_w (-(f 233 l)) ≤ mj_shr (q.2 k l) 1
                  · rw [if_pos h2, wS (by omega), ← hstep (rrg f n k l q.2 k l) hkl (by rw [r]; unfold rrb; rw [if_pos hb, if_pos h1, if_pos h2]), um_same]
                  · rw [if_neg h2, mj_gd_pos gl, R_put hw f n q.1 _ _ (by omega) (by omega), mj_bu_some, wS (by omega), hstep _ hkl (by unfold rrb; rw [if_pos hb, if_pos h1, if_neg h2])]
                · rw [if_neg h1, R_put hw f n q.1 _ _ (by omega) (by omega), mj_bu_some, wS (by omega), hstep _ hkl (by unfold rrb; rw [if_pos hb, if_neg h1])]
              · rw [if_neg hb, wS (by omega), ← hstep (rrg f n k l q.2 k l) hkl (by rw [r]; unfold rrb; rw [if_neg hb]), um_same]) () u.2
          exact this
        obtain ⟨u', h'⟩ := hin
        refine ⟨(.inl (n : Int), u'), h'.trans ?_⟩
        rw [l_M_roughens_20 hw, rq_n, if_pos (by omega), wS (by omega)]
        congr 2
        funext i j
        unfold rrg
        exact ifc (by omega) rfl rfl) () (.inr (.inr (.inr 0)), .inr (.inr (.inr 0)))
      exact this
    have h0 : rrg f n 0 0 q.2 = q.2 := by
      funext i j
      unfold rrg
      rw [if_neg (by omega)]
    rw [h0] at h
    refine h.trans ?_
    rw [l_M_roughens_10 hw, rq_n, if_pos (by omega), R_closes hw f (by omega) (q.1, rrg f n n 0 q.2) hv, mj_bu_some]
  · rw [if_neg hv0, if_neg hv0]
/-- is a bound beyond 400 -/
def farB (b : Int) : Bool := decide (b < 1000000) && !decide (-400 ≤ mj_shr b 1 ∧ mj_shr b 1 ≤ 400)
def farM (n : Nat) (A : Mt) : Bool := any n (fun i => any n (fun j => farB (A i j)))
theorem R_isFar (hw : wk sw w) (f : mj_F) {n : Nat} (hn : n ≤ 61) (v : Int) (A : Mt) : mj_call yM_isFar w (rq f n v A) [.inr (.inl 223)] = some (w, rq f n v A, some (.inl (if v = 0 ∧ farM n A = true then 1 else 0))) := by
  rw [c_M_isFar hw]
  by_cases hv : v = 0
  · have hin : ∀ (i : Nat) (u : mj_V), i < n → (any n (fun j => farB (A i j)) = true ∧ mj_run yM_isFar w (rq f n v A) 2 [.inr (.inl 223), .inl (i : Int), u] [] = some (w, rq f n v A, some (.inl 1))) ∨ (any n (fun j => farB (A i j)) = false ∧ mj_run yM_isFar w (rq f n v A) 2 [.inr (.inl 223), .inl (i : Int), u] [] = mj_run yM_isFar w (rq f n v A) 2 [.inr (.inl 223), .inl ((i + 1 : Nat) : Int), .inl (n : Int)] []) := by
      intro i u hi
      have e : mj_run yM_isFar w (rq f n v A) 2 [.inr (.inl 223), .inl (i : Int), u] [] = mj_run yM_isFar w (rq f n v A) 19 [.inr (.inl 223), .inl (i : Int), .inl ((0 : Nat) : Int)] [] := by
        rw [l_M_isFar_2 hw, rq_n, if_neg (by omega), rq_v, if_neg (fun q => q hv)]
        rfl
      rw [e]
      rcases loop_any (fun j (_ : Unit) => mj_run yM_isFar w (rq f n v A) 19 [.inr (.inl 223), .inl (i : Int), .inl (j : Int)] []) (some (w, rq f n v A, some (.inl 1))) (fun j => farB (A i j)) n (fun j _ hj hg => by
          unfold farB at hg
          rw [Bool.and_eq_true, Bool.not_eq_true', decide_eq_true_eq, decide_eq_false_iff_not] at hg
          rw [l_M_isFar_19 hw, rq_n, if_neg (by omega), R_get hw f n v A (by omega) (by omega), mj_bi_some, if_neg (by omega), R_get hw f n v A (by omega) (by omega), mj_bi_some, M_numberOf hw, mj_bi_some, M_isIn hw, mj_bi_some, if_neg hg.2, if_neg (by decide)]) (fun j _ hj hg => by
          refine ⟨(), ?_⟩
          rw [l_M_isFar_19 hw, rq_n, if_neg (by omega), R_get hw f n v A (by omega) (by omega), mj_bi_some]
          by_cases hb : 1000000 ≤ A i j
          · rw [if_pos hb, wS (by omega)]
          · unfold farB at hg
            have hlt : decide (A i j < 1000000) = true := decide_eq_true (by omega)
            rw [hlt, Bool.true_and, Bool.not_eq_false', decide_eq_true_eq] at hg
            rw [if_neg hb, R_get hw f n v A (by omega) (by omega), mj_bi_some, M_numberOf hw, mj_bi_some, M_isIn hw, mj_bi_some, if_pos hg, if_pos (by decide), wS (by omega)]) () with ⟨a, b⟩ | ⟨a, _, b⟩
      · exact Or.inl ⟨a, b⟩
      · refine Or.inr ⟨a, b.trans ?_⟩
        rw [l_M_isFar_19 hw, rq_n, if_pos (by omega), wS (by omega)]
    rcases loop_any (fun i (u : mj_V) => mj_run yM_isFar w (rq f n v A) 2 [.inr (.inl 223), .inl (i : Int), u] []) (some (w, rq f n v A, some (.inl 1))) (fun i => any n (fun j => farB (A i j))) n (fun i u hi hg => by
        rcases hin i u hi with ⟨_, b⟩ | ⟨a, _⟩
        · exact b
        · rw [hg] at a; cases a) (fun i u hi hg => by
        rcases hin i u hi with ⟨a, _⟩ | ⟨_, b⟩
        · rw [hg] at a; cases a
        · exact ⟨_, b⟩) (.inr (.inr (.inr 0))) with ⟨a, b⟩ | ⟨a, u, b⟩
    · refine b.trans ?_
      rw [if_pos ⟨hv, a⟩]
    · refine b.trans ?_
      rw [l_M_isFar_2 hw, rq_n, if_pos (by omega), if_neg]
      intro h
      have h2 := h.2
      unfold farM at h2
      rw [a] at h2
      cases h2
  · rw [show (0 : Int) = ((0 : Nat) : Int) from rfl, l_M_isFar_2 hw, rq_n, rq_v, if_neg (fun h : v = ((0 : Nat) : Int) ∧ farM n A = true => hv h.1)]
    split
    · rfl
    · rfl
end RR
