/-! Zones: up, down, set, free, close, bounds of a when. -/
theorem loop_st {β : Type} (R : Nat → β) {a n : Nat} (han : a ≤ n) (h : ∀ i, a ≤ i → i < n → R i = R (i + 1)) : R a = R n := by
  obtain ⟨d, rfl⟩ : ∃ d, n = a + d := ⟨n - a, by omega⟩
  clear han
  induction d with
  | zero => rfl
  | succ d ih => exact (ih (fun i h1 h2 => h i h1 (by omega))).trans (h (a + d) (by omega) (by omega))
theorem ifc {α : Type} {P Q : Prop} [Decidable P] [Decidable Q] {a b c d : α} (h : P ↔ Q) (h1 : a = c) (h2 : b = d) : (if P then a else b) = (if Q then c else d) := by
  subst h1 h2
  by_cases hp : P
  · rw [if_pos hp, if_pos (h.mp hp)]
  · rw [if_neg hp, if_neg (fun q => hp (h.mpr q))]
section ZZ
variable {sw : Bool} {w : mj_W}
/-- "at most", "less than", as the class writes them -/
def am (n : Int) : Int := mj_w (mj_w (2 * n) + 1)
def ls (n : Int) : Int := mj_w (2 * n)
theorem X_atMost (hw : wk sw w) (F : mj_F) (n : Int) : mj_call yX_atMost w F [.inl n] = some (w, F, some (.inl (am n))) := c_X_atMost hw F n
theorem X_lessThan (hw : wk sw w) (F : mj_F) (n : Int) : mj_call yX_lessThan w F [.inl n] = some (w, F, some (.inl (ls n))) := c_X_lessThan hw F n
def upB (rel n : Int) : Int := if rel = 0 then ls n else if rel = 1 ∨ rel = 2 then am n else 268435456
def loB (rel n : Int) : Int := if rel = 4 then ls (mj_w (-n)) else if rel = 3 ∨ rel = 2 then am (mj_w (-n)) else 268435456
theorem X_upperOf (hw : wk sw w) (F : mj_F) (rel n : Int) : mj_call yX_upperOf w F [.inl rel, .inl n] = some (w, F, some (.inl (upB rel n))) := by
  rw [c_X_upperOf hw]
  simp only [X_atMost hw, X_lessThan hw, mj_bi_some]
  unfold upB
  by_cases h0 : rel = 0
  · rw [if_neg (fun q => q h0), if_pos h0]
  · rw [if_pos h0, if_neg h0]
    by_cases h1 : rel = 1
    · rw [if_pos h1, if_pos (Or.inl h1)]
    · rw [if_neg h1]
      by_cases h2 : rel = 2
      · rw [if_neg (fun q => q h2), if_pos (Or.inr h2)]
      · rw [if_pos h2, if_neg (fun q => q.elim h1 h2)]
theorem X_lowerOf (hw : wk sw w) (F : mj_F) (rel n : Int) : mj_call yX_lowerOf w F [.inl rel, .inl n] = some (w, F, some (.inl (loB rel n))) := by
  rw [c_X_lowerOf hw]
  simp only [X_atMost hw, X_lessThan hw, mj_bi_some]
  unfold loB
  by_cases h0 : rel = 4
  · rw [if_neg (fun q => q h0), if_pos h0]
  · rw [if_pos h0, if_neg h0]
    by_cases h1 : rel = 3
    · rw [if_pos h1, if_pos (Or.inl h1)]
    · rw [if_neg h1]
      by_cases h2 : rel = 2
      · rw [if_neg (fun q => q h2), if_pos (Or.inr h2)]
      · rw [if_pos h2, if_neg (fun q => q.elim h1 h2)]
theorem Z_relate (hw : wk sw w) {z : Nat} (hz : zn z = true) (f : mj_F) {n : Nat} (hn : n ≤ 6) (v : Int) (C : Mt) {i j : Nat} (rel b : Int) (hi : i < 6) (hj : j < 6) : mj_call yZ_relate w (zs z f n v C) [.inr (.inl z), .inl (i : Int), .inl (j : Int), .inl rel, .inl b] = some (w, zs z f n (zt n j i (loB rel b) (zt n i j (upB rel b) v C).1 (zt n i j (upB rel b) v C).2).1 (zt n j i (loB rel b) (zt n i j (upB rel b) v C).1 (zt n i j (upB rel b) v C).2).2, none) := by
  rw [c_Z_relate hw _ z _ _ _ _ hz, X_upperOf hw, mj_bi_some, Z_tighten hw hz f hn v C _ hi hj, mj_bu_some, X_lowerOf hw, mj_bi_some, Z_tighten hw hz f hn _ _ _ hj hi, mj_bu_some]
def zup (n : Nat) (C : Mt) : Mt := fun i j => if j = 0 ∧ 1 ≤ i ∧ i < n then 268435456 else C i j
theorem Z_goUp (hw : wk sw w) {z : Nat} (hz : zn z = true) (f : mj_F) {n : Nat} (h1 : 1 ≤ n) (hn : n ≤ 6) (v : Int) (C : Mt) : mj_call yZ_goUp w (zs z f n v C) [.inr (.inl z)] = some (w, zs z f n v (zup n C), none) := by
  rw [c_Z_goUp hw _ z hz]
  have h := loop_st (fun c => mj_run yZ_goUp w (zs z f n v (zup c C)) 2 [.inr (.inl z), .inl (c : Int)] []) h1 (fun c hc1 hc => by
    rw [l_Z_goUp_2 hw _ z _ hz, zs_n, if_neg (by omega), show (0 : Int) = ((0 : Nat) : Int) from rfl, Z_put hw hz f n v _ _ (by omega) (by omega), mj_bu_some, wS (by omega)]
    congr 2
    funext i j
    unfold um zup
    by_cases hx : i = c ∧ j = 0
    · rw [if_pos hx, if_pos (by omega)]
    · rw [if_neg hx]
      by_cases hy : j = 0 ∧ 1 ≤ i ∧ i < c
      · rw [if_pos hy, if_pos (by omega)]
      · rw [if_neg hy, if_neg (by omega)])
  have h0 : zup 1 C = C := by
    funext i j
    unfold zup
    rw [if_neg (by omega)]
  rw [h0] at h
  refine h.trans ?_
  rw [l_Z_goUp_2 hw _ z _ hz, zs_n, if_pos (by omega)]
/-- SET: clock c is n (a: at most n, b: at most -n) -/
def zas (n c : Nat) (a b : Int) (C : Mt) : Mt := fun x y => if x = c ∧ y < n ∧ y ≠ c then cp a (C 0 y) else if y = c ∧ x < n ∧ x ≠ c then cp (C x 0) b else C x y
theorem Z_assign (hw : wk sw w) {z : Nat} (hz : zn z = true) (f : mj_F) {n c : Nat} (h1 : 1 ≤ c) (hc : c < 6) (hn : n ≤ 6) (v : Int) (C : Mt) (k : Int) : mj_call yZ_assign w (zs z f n v C) [.inr (.inl z), .inl (c : Int), .inl k] = some (w, zs z f n v (zas n c (am k) (am (mj_w (-k))) C), none) := by
  rw [c_Z_assign hw _ z _ _ hz]
  have h := loop_st (fun j => mj_run yZ_assign w (zs z f n v (zas j c (am k) (am (mj_w (-k))) C)) 2 [.inr (.inl z), .inl (c : Int), .inl k, .inl (j : Int)] []) (Nat.zero_le n) (fun j _ hj => by
    rw [l_Z_assign_2 hw _ z _ _ _ hz, zs_n, if_neg (by omega)]
    by_cases hjc : j = c
    · rw [if_pos (by omega), wS (by omega)]
      congr 2
      funext x y
      unfold zas
      exact ifc (by omega) rfl (ifc (by omega) rfl rfl)
    · rw [if_neg (by omega), X_atMost hw, mj_bi_some, show (0 : Int) = ((0 : Nat) : Int) from rfl, Z_cell hw hz f n v _ (by omega) (by omega), mj_bi_some, X_sumOf hw, mj_bi_some, Z_put hw hz f n v _ _ hc (by omega), mj_bu_some, Z_cell hw hz f n v _ (by omega) (by omega), mj_bi_some, X_atMost hw, mj_bi_some, X_sumOf hw, mj_bi_some, Z_put hw hz f n v _ _ (by omega) hc, mj_bu_some, wS (by omega)]
      congr 2
      have r1 : zas j c (am k) (am (mj_w (-k))) C 0 j = C 0 j := by
        unfold zas
        rw [if_neg (by omega), if_neg (by omega)]
      have r2 : um (zas j c (am k) (am (mj_w (-k))) C) c j (cp (am k) (C 0 j)) j 0 = C j 0 := by
        unfold um zas
        rw [if_neg (by omega), if_neg (by omega), if_neg (by omega)]
      rw [r1, r2]
      funext x y
      unfold um zas
      by_cases hA : x = j ∧ y = c
      · rw [if_pos hA, if_neg (by omega), if_pos (by omega), hA.1]
      · rw [if_neg hA]
        by_cases hB : x = c ∧ y = j
        · rw [if_pos hB, if_pos (by omega), hB.2]
        · rw [if_neg hB]
          exact ifc (by omega) rfl (ifc (by omega) rfl rfl))
  have h0 : zas 0 c (am k) (am (mj_w (-k))) C = C := by
    funext x y
    unfold zas
    rw [if_neg (by omega), if_neg (by omega)]
  rw [h0] at h
  refine h.trans ?_
  rw [l_Z_assign_2 hw _ z _ _ _ hz, zs_n, if_pos (by omega)]
/-- FREE -/
def zfr (n c : Nat) (C : Mt) : Mt := fun x y => if x = c ∧ y < n ∧ y ≠ c then 268435456 else if y = c ∧ x < n ∧ x ≠ c then C x 0 else C x y
theorem Z_release (hw : wk sw w) {z : Nat} (hz : zn z = true) (f : mj_F) {n c : Nat} (h1 : 1 ≤ c) (hc : c < 6) (hn : n ≤ 6) (v : Int) (C : Mt) : mj_call yZ_release w (zs z f n v C) [.inr (.inl z), .inl (c : Int)] = some (w, zs z f n v (zfr n c C), none) := by
  rw [c_Z_release hw _ z _ hz]
  have h := loop_st (fun j => mj_run yZ_release w (zs z f n v (zfr j c C)) 2 [.inr (.inl z), .inl (c : Int), .inl (j : Int)] []) (Nat.zero_le n) (fun j _ hj => by
    rw [l_Z_release_2 hw _ z _ _ hz, zs_n, if_neg (by omega)]
    by_cases hjc : j = c
    · rw [if_pos (by omega), wS (by omega)]
      congr 2
      funext x y
      unfold zfr
      exact ifc (by omega) rfl (ifc (by omega) rfl rfl)
    · rw [if_neg (by omega), Z_put hw hz f n v _ _ hc (by omega), mj_bu_some, show (0 : Int) = ((0 : Nat) : Int) from rfl, Z_cell hw hz f n v _ (by omega) (by omega), mj_bi_some, Z_put hw hz f n v _ _ (by omega) hc, mj_bu_some, wS (by omega)]
      congr 2
      have r2 : um (zfr j c C) c j 268435456 j 0 = C j 0 := by
        unfold um zfr
        rw [if_neg (by omega), if_neg (by omega), if_neg (by omega)]
      rw [r2]
      funext x y
      unfold um zfr
      by_cases hA : x = j ∧ y = c
      · rw [if_pos hA, if_neg (by omega), if_pos (by omega), hA.1]
      · rw [if_neg hA]
        by_cases hB : x = c ∧ y = j
        · rw [if_pos hB, if_pos (by omega)]
        · rw [if_neg hB]
          exact ifc (by omega) rfl (ifc (by omega) rfl rfl))
  have h0 : zfr 0 c C = C := by
    funext x y
    unfold zfr
    rw [if_neg (by omega), if_neg (by omega)]
  rw [h0] at h
  refine h.trans ?_
  rw [l_Z_release_2 hw _ z _ _ hz, zs_n, if_pos (by omega)]
/-- close(): flag, square -/
def zcl (n : Nat) (v : Int) (C : Mt) : Int × Mt := if ¬ v = 0 then (1, C) else ((if (clr n n 0 C).1 = 0 then 1 else 0), (clr n n 0 C).2)
theorem Z_close (hw : wk sw w) {z : Nat} (hz : zn z = true) (f : mj_F) {n : Nat} (hn : n ≤ 6) (v : Int) (C : Mt) : mj_call yZ_close w (zs z f n v C) [.inr (.inl z)] = some (w, zs z f n (zcl n v C).1 (zcl n v C).2, none) := by
  rw [c_Z_close hw _ z hz, zs_v, zs_n]
  unfold zcl
  by_cases hv : v = 0
  · rw [if_neg (fun q => q hv), if_neg (fun q => q hv)]
    have h := X_closeCells (f := mj_u (mj_u f z 1 (n : Int)) z 2 v) (S := 6) hw (by decide) (zn_c hz hw) hn C
    have h : mj_call yX_closeCells w (zs z f n v C) [.inr (.inl (z + 1)), .inl 6, .inl (n : Int)] = some (w, zs z f n v (clr n n 0 C).2, some (.inl (clr n n 0 C).1)) := h
    rw [h, mj_bi_some]
    by_cases h0 : (clr n n 0 C).1 = 0
    · rw [if_neg (fun q => q h0), if_pos h0, zs_pv]
    · rw [if_pos h0, if_neg h0, zs_pv]
  · rw [if_pos hv, if_pos hv, zs_pv]
end ZZ
