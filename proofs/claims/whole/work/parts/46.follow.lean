/-! Bounds that follow from others; what is told of a bound; a table becomes the square. -/
/-- the bound i j follows from two others -/
def folR (n i j : Nat) (A : Mt) : Bool := any n (fun k => decide (k ≠ i ∧ k ≠ j ∧ rp (A i k) (A k j) ≤ A i j))
def folZ (n i j : Nat) (A : Mt) : Bool := any n (fun k => decide (k ≠ i ∧ k ≠ j ∧ cp (A i k) (A k j) ≤ A i j))
/-- does the pair count, by the kind x -/
def prZ (n i j : Nat) (x : Int) (A : Mt) : Bool := decide (A i j < 268435456) && (if x = 0 then true else if x = 1 then decide (mj_and (A i j) 1 = 1) else !folZ n i j A)
section RR
variable {sw : Bool} {w : mj_W}
theorem R_follows (hw : wk sw w) (f : mj_F) {n i j : Nat} (hn : n ≤ 61) (hi : i < n) (hj : j < n) (v : Int) (A : Mt) : mj_call yM_follows w (rq f n v A) [.inr (.inl 223), .inl (i : Int), .inl (j : Int)] = some (w, rq f n v A, some (.inl (if folR n i j A = true then 1 else 0))) := by
  rw [c_M_follows hw]
  rcases loop_any (fun k (_ : Unit) => mj_run yM_follows w (rq f n v A) 2 [.inr (.inl 223), .inl (i : Int), .inl (j : Int), .inl (k : Int)] []) (some (w, rq f n v A, some (.inl 1))) (fun k => decide (k ≠ i ∧ k ≠ j ∧ rp (A i k) (A k j) ≤ A i j)) n (fun k _ hk hg => by
      rw [decide_eq_true_eq] at hg
      rw [l_M_follows_2 hw, rq_n, if_neg (by omega), if_neg (by omega), if_neg (by omega), R_get hw f n v A (by omega) (by omega), mj_bi_some, R_get hw f n v A (by omega) (by omega), mj_bi_some, M_plus hw, mj_bi_some, R_get hw f n v A (by omega) (by omega), mj_bi_some, if_neg (by omega)]) (fun k _ hk hg => by
      rw [decide_eq_false_iff_not] at hg
      refine ⟨(), ?_⟩
      rw [l_M_follows_2 hw, rq_n, if_neg (by omega), wS (by omega)]
      by_cases h1 : k = i
      · rw [if_pos (by omega)]
      · rw [if_neg (by omega)]
        by_cases h2 : k = j
        · rw [if_pos (by omega)]
        · rw [if_neg (by omega), R_get hw f n v A (by omega) (by omega), mj_bi_some, R_get hw f n v A (by omega) (by omega), mj_bi_some, M_plus hw, mj_bi_some, R_get hw f n v A (by omega) (by omega), mj_bi_some, if_pos (by omega)]) () with ⟨a, b⟩ | ⟨a, _, b⟩
  · refine b.trans ?_
    unfold folR
    rw [if_pos a]
  · refine b.trans ?_
    unfold folR
    rw [l_M_follows_2 hw, rq_n, if_pos (by omega), if_neg (by rw [a]; decide)]
theorem Z_follows (hw : wk sw w) {z : Nat} (hz : zn z = true) (F : mj_F) {n i j : Nat} (hF : F z 1 = (n : Int)) (hn : n ≤ 6) (hi : i < n) (hj : j < n) : mj_call yZ_followsFromOthers w F [.inr (.inl z), .inl (i : Int), .inl (j : Int)] = some (w, F, some (.inl (if folZ n i j (gm (z + 1) 6 F) = true then 1 else 0))) := by
  rw [c_Z_followsFromOthers hw _ z _ _ hz]
  generalize hA : gm (z + 1) 6 F = A
  have hget : ∀ {a b : Nat}, a < n → b < n → mj_call yZ_cell w F [.inr (.inl z), .inl (a : Int), .inl (b : Int)] = some (w, F, some (.inl (A a b))) := by
    intro a b ha hb
    rw [← hA]
    exact Z_cellf hw hz F (by omega) (by omega)
  rcases loop_any (fun k (_ : Unit) => mj_run yZ_followsFromOthers w F 2 [.inr (.inl z), .inl (i : Int), .inl (j : Int), .inl (k : Int)] []) (some (w, F, some (.inl 1))) (fun k => decide (k ≠ i ∧ k ≠ j ∧ cp (A i k) (A k j) ≤ A i j)) n (fun k _ hk hg => by
      rw [decide_eq_true_eq] at hg
      rw [l_Z_followsFromOthers_2 hw _ z _ _ _ hz, hF, if_neg (by omega), if_neg (by omega), if_neg (by omega), hget hi hk, mj_bi_some, hget hk hj, mj_bi_some, X_sumOf hw, mj_bi_some, hget hi hj, mj_bi_some, if_neg (by omega)]) (fun k _ hk hg => by
      rw [decide_eq_false_iff_not] at hg
      refine ⟨(), ?_⟩
      rw [l_Z_followsFromOthers_2 hw _ z _ _ _ hz, hF, if_neg (by omega), wS (by omega)]
      by_cases h1 : k = i
      · rw [if_pos (by omega)]
      · rw [if_neg (by omega)]
        by_cases h2 : k = j
        · rw [if_pos (by omega)]
        · rw [if_neg (by omega), hget hi hk, mj_bi_some, hget hk hj, mj_bi_some, X_sumOf hw, mj_bi_some, hget hi hj, mj_bi_some, if_pos (by omega)]) () with ⟨a, b⟩ | ⟨a, _, b⟩
  · refine b.trans ?_
    unfold folZ
    rw [if_pos a]
  · refine b.trans ?_
    unfold folZ
    rw [l_Z_followsFromOthers_2 hw _ z _ _ _ hz, hF, if_pos (by omega), if_neg (by rw [a]; decide)]
theorem Z_countsAsPair (hw : wk sw w) {z : Nat} (hz : zn z = true) (F : mj_F) {n i j : Nat} (hF : F z 1 = (n : Int)) (hn : n ≤ 6) (hi : i < n) (hj : j < n) (x : Int) : mj_call yZ_countsAsPair w F [.inr (.inl z), .inl (i : Int), .inl (j : Int), .inl x] = some (w, F, some (.inl (if prZ n i j x (gm (z + 1) 6 F) = true then 1 else 0))) := by
  rw [c_Z_countsAsPair hw _ z _ _ _ hz, Z_cellf hw hz F (by omega) (by omega), mj_bi_some, Z_follows hw hz F hF hn hi hj, mj_bi_some, c_X_reachedOf hw, mj_bi_some]
  generalize gm (z + 1) 6 F = A
  unfold prZ
  by_cases h1 : A i j < 268435456
  · rw [if_pos h1, decide_eq_true h1, Bool.true_and]
    by_cases h2 : x = 0
    · rw [if_neg (fun q => q h2), if_pos h2, if_pos rfl]
    · rw [if_pos h2, if_neg h2]
      by_cases h3 : x = 1
      · rw [if_neg (fun q => q h3), if_pos h3]
        by_cases h4 : mj_and (A i j) 1 = 1
        · rw [if_neg (fun q => q h4), decide_eq_true h4, if_pos rfl]
        · rw [if_pos h4, decide_eq_false h4, if_neg (by decide)]
      · rw [if_pos h3, if_neg h3]
        cases folZ n i j A <;> rfl
  · rw [if_neg h1, decide_eq_false h1, Bool.false_and, if_neg (by decide)]
end RR
