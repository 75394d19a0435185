/-! The reference: all 0, all times, tables loaded and stored. -/
/-- the square's rows below k, and of row k the columns below l, anew -/
def sqf (n k l : Nat) (g A : Mt) : Mt := fun i j => if i < k ∧ j < n ∨ i = k ∧ j < l then g i j else A i j
theorem sqf_0 (n : Nat) (g A : Mt) : sqf n 0 0 g A = A := by
  funext i j
  unfold sqf
  rw [if_neg (by omega)]
theorem sqf_S {n k l : Nat} {g A : Mt} : um (sqf n k l g A) k l (g k l) = sqf n k (l + 1) g A := by
  funext i j
  unfold um sqf
  by_cases h : i = k ∧ j = l
  · rw [if_pos h, if_pos (by omega), h.1, h.2]
  · rw [if_neg h]
    exact ifc (by omega) rfl rfl
theorem sqf_R {n k : Nat} {g A : Mt} : sqf n k n g A = sqf n (k + 1) 0 g A := by
  funext i j
  unfold sqf
  exact ifc (by omega) rfl rfl
/-- a whole square of side n anew -/
def sqn (n : Nat) (g A : Mt) : Mt := sqf n n 0 g A
theorem sqn_in {n : Nat} {g A : Mt} {i j : Nat} (hi : i < n) (hj : j < n) : sqn n g A i j = g i j := by
  unfold sqn sqf
  rw [if_pos (by omega)]
section RR
variable {sw : Bool} {w : mj_W}
theorem rq_mem (f : mj_F) (n v : Int) : mj_u (mj_u f 223 52 n) 223 53 v = rq f n v (gm 252 62 f) := by
  unfold rq
  have h : gm 252 62 f = gm 252 62 (mj_u (mj_u f 223 52 n) 223 53 v) := by
    funext i j
    unfold gm
    rw [u_o (Or.inl (by decide)), u_o (Or.inl (by decide))]
  rw [h, sm_gm]
theorem rq_rq {f : mj_F} {n v n' v' : Int} {A B : Mt} : rq (rq f n v A) n' v' B = rq f n' v' B := by
  funext x q
  unfold rq sm mj_u
  by_cases h1 : x = 252 ∧ q < 62 * 62
  · simp only [if_pos h1]
  · by_cases h2 : x = 223 ∧ q = 53
    · simp only [if_neg h1, if_pos h2]
    · by_cases h3 : x = 223 ∧ q = 52
      · simp only [if_neg h1, if_neg h2, if_pos h3]
      · simp only [if_neg h1, if_neg h2, if_neg h3]
theorem R_nought (hw : wk sw w) (f : mj_F) {c : Nat} (hc : f 223 2 = (c : Int)) (hc4 : c ≤ 4) : mj_call yM_nought w f [.inr (.inl 223)] = some (w, rq f ((c + 1 : Nat) : Int) 0 (sqn (c + 1) (fun _ _ => 1) (gm 252 62 f)), none) := by
  rw [c_M_nought hw, hc, wS (by omega), rq_mem]
  obtain ⟨u, h⟩ := loop_ex (fun k (_ : Unit) (u : mj_V) => mj_run yM_nought w (rq f ((c + 1 : Nat) : Int) 0 (sqf (c + 1) k 0 (fun _ _ => 1) (gm 252 62 f))) 17 [.inr (.inl 223), .inl (k : Int), u] []) (fun _ a => a) (c + 1) (fun k _ u hk => by
    rw [l_M_nought_17 hw, rq_n, if_neg (by omega)]
    have h := loop_st (fun l => mj_run yM_nought w (rq f ((c + 1 : Nat) : Int) 0 (sqf (c + 1) k l (fun _ _ => 1) (gm 252 62 f))) 27 [.inr (.inl 223), .inl (k : Int), .inl (l : Int)] []) (Nat.zero_le (c + 1)) (fun l _ hl => by
      rw [l_M_nought_27 hw, rq_n, if_neg (by omega), R_put hw f _ 0 _ _ (by omega) (by omega), mj_bu_some, wS (by omega)]
      have := sqf_S (n := c + 1) (k := k) (l := l) (g := fun _ _ => 1) (A := gm 252 62 f)
      rw [← this])
    refine ⟨.inl ((c + 1 : Nat) : Int), h.trans ?_⟩
    rw [l_M_nought_27 hw, rq_n, if_pos (by omega), wS (by omega), sqf_R]) () (.inr (.inr (.inr 0)))
  rw [sqf_0] at h
  refine h.trans ?_
  rw [l_M_nought_17 hw, rq_n, if_pos (by omega)]
  rfl
def wdM : Mt := fun i j => if i = 0 ∨ i = j then 1 else 1000000
theorem R_wide (hw : wk sw w) (f : mj_F) {n : Nat} (hn : n ≤ 61) (v : Int) (A : Mt) : mj_call yM_wide w (rq f n v A) [.inr (.inl 223)] = some (w, rq f n 0 (sqn n wdM A), none) := by
  rw [c_M_wide hw, rq_pv]
  obtain ⟨u, h⟩ := loop_ex (fun k (_ : Unit) (u : mj_V) => mj_run yM_wide w (rq f n 0 (sqf n k 0 wdM A)) 7 [.inr (.inl 223), .inl (k : Int), u] []) (fun _ a => a) n (fun k _ u hk => by
    rw [l_M_wide_7 hw, rq_n, if_neg (by omega)]
    have h := loop_st (fun l => mj_run yM_wide w (rq f n 0 (sqf n k l wdM A)) 17 [.inr (.inl 223), .inl (k : Int), .inl (l : Int)] []) (Nat.zero_le n) (fun l _ hl => by
      rw [l_M_wide_17 hw, rq_n, if_neg (by omega), R_put hw f _ 0 _ _ (by omega) (by omega), mj_bu_some, R_put hw f _ 0 _ _ (by omega) (by omega), mj_bu_some, wS (by omega), ← sqf_S]
      unfold wdM
      by_cases h0 : k = 0
      · rw [if_pos (by omega), if_pos (Or.inl h0)]
      · rw [if_neg (by omega)]
        by_cases h1 : k = l
        · rw [if_neg (by omega), if_pos (Or.inr h1)]
        · rw [if_pos (by omega), if_neg (by omega)])
    refine ⟨.inl (n : Int), h.trans ?_⟩
    rw [l_M_wide_17 hw, rq_n, if_pos (by omega), wS (by omega), sqf_R]) () (.inr (.inr (.inr 0)))
  rw [sqf_0] at h
  refine h.trans ?_
  rw [l_M_wide_7 hw, rq_n, if_pos (by omega)]
  rfl
/-- a table's square in the row a, at t -/
def tsq (f : mj_F) (a t : Nat) : Mt := fun i j => f a (25 * t + 5 * i + j)
theorem ix5 {t i j : Nat} (ht : t < 60) (hi : i < 5) (hj : j < 5) : mj_w (mj_w (mj_w (25 * (t : Int)) + mj_w (5 * (i : Int))) + (j : Int)) = ((25 * t + 5 * i + j : Nat) : Int) := by unfold mj_w; omega
theorem R_loads (hw : wk sw w) (f : mj_F) {c t : Nat} (hc : f 223 2 = (c : Int)) (hc4 : c ≤ 4) (ht : t < 4) : mj_call yM_loads w f [.inr (.inl 223), .inl (t : Int)] = some (w, rq f ((c + 1 : Nat) : Int) (if f 234 (100 + t) = 1 then 1 else 0) (sqn (c + 1) (tsq f 234 t) (gm 252 62 f)), none) := by
  have e1 : mj_w (100 + (t : Int)) = ((100 + t : Nat) : Int) := by unfold mj_w; omega
  have key : ∀ v : Int, mj_run yM_loads w (rq f ((c + 1 : Nat) : Int) v (gm 252 62 f)) 34 [.inr (.inl 223), .inl (t : Int), .inl 0, .inr (.inr (.inr 0))] [] = some (w, rq f ((c + 1 : Nat) : Int) v (sqn (c + 1) (tsq f 234 t) (gm 252 62 f)), none) := by
    intro v
    obtain ⟨u, h⟩ := loop_ex (fun k (_ : Unit) (u : mj_V) => mj_run yM_loads w (rq f ((c + 1 : Nat) : Int) v (sqf (c + 1) k 0 (tsq f 234 t) (gm 252 62 f))) 34 [.inr (.inl 223), .inl (t : Int), .inl (k : Int), u] []) (fun _ a => a) (c + 1) (fun k _ u hk => by
      rw [l_M_loads_34 hw, rq_n, if_neg (by omega)]
      have h := loop_st (fun l => mj_run yM_loads w (rq f ((c + 1 : Nat) : Int) v (sqf (c + 1) k l (tsq f 234 t) (gm 252 62 f))) 44 [.inr (.inl 223), .inl (t : Int), .inl (k : Int), .inl (l : Int)] []) (Nat.zero_le (c + 1)) (fun l _ hl => by
        rw [l_M_loads_44 hw, rq_n, if_neg (by omega), ix5 (by omega) (by omega) (by omega), mj_gd_pos ⟨by omega, by omega⟩, Int.toNat_natCast, rq_o (by decide) (by decide), R_put hw f _ v _ _ (by omega) (by omega), mj_bu_some, wS (by omega), ← sqf_S]
        rfl)
      refine ⟨.inl ((c + 1 : Nat) : Int), h.trans ?_⟩
      rw [l_M_loads_44 hw, rq_n, if_pos (by omega), wS (by omega), sqf_R]) () (.inr (.inr (.inr 0)))
    rw [sqf_0] at h
    refine h.trans ?_
    rw [l_M_loads_34 hw, rq_n, if_pos (by omega)]
    rfl
  rw [c_M_loads hw, e1, mj_gd_pos ⟨by omega, by omega⟩, Int.toNat_natCast, hc, wS (by omega), rq_mem, rq_mem, u_o (Or.inl (by decide)), key, key]
  by_cases h1 : f 234 (100 + t) = 1
  · rw [if_neg (fun q => q h1), if_pos h1]
  · rw [if_pos h1, if_neg h1]
theorem R_loadsNode (hw : wk sw w) (f : mj_F) {c t : Nat} (hc : f 223 2 = (c : Int)) (hc4 : c ≤ 4) (ht : t < 60) : mj_call yM_loadsNode w f [.inr (.inl 223), .inl (t : Int)] = some (w, rq f ((c + 1 : Nat) : Int) 0 (sqn (c + 1) (tsq f 239 t) (gm 252 62 f)), none) := by
  rw [c_M_loadsNode hw, hc, wS (by omega), rq_mem]
  obtain ⟨u, h⟩ := loop_ex (fun k (_ : Unit) (u : mj_V) => mj_run yM_loadsNode w (rq f ((c + 1 : Nat) : Int) 0 (sqf (c + 1) k 0 (tsq f 239 t) (gm 252 62 f))) 17 [.inr (.inl 223), .inl (t : Int), .inl (k : Int), u] []) (fun _ a => a) (c + 1) (fun k _ u hk => by
    rw [l_M_loadsNode_17 hw, rq_n, if_neg (by omega)]
    have h := loop_st (fun l => mj_run yM_loadsNode w (rq f ((c + 1 : Nat) : Int) 0 (sqf (c + 1) k l (tsq f 239 t) (gm 252 62 f))) 27 [.inr (.inl 223), .inl (t : Int), .inl (k : Int), .inl (l : Int)] []) (Nat.zero_le (c + 1)) (fun l _ hl => by
      rw [l_M_loadsNode_27 hw, rq_n, if_neg (by omega), ix5 ht (by omega) (by omega), mj_gd_pos ⟨by omega, by omega⟩, Int.toNat_natCast, rq_o (by decide) (by decide), R_put hw f _ 0 _ _ (by omega) (by omega), mj_bu_some, wS (by omega), ← sqf_S]
      rfl)
    refine ⟨.inl ((c + 1 : Nat) : Int), h.trans ?_⟩
    rw [l_M_loadsNode_27 hw, rq_n, if_pos (by omega), wS (by omega), sqf_R]) () (.inr (.inr (.inr 0)))
  rw [sqf_0] at h
  refine h.trans ?_
  rw [l_M_loadsNode_17 hw, rq_n, if_pos (by omega)]
  rfl
end RR
