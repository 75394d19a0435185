/-! The reference: tables kept, stored, taken back. -/
/-- the past, shifted by one row, slots below k read -/
def shf (f : mj_F) (k : Nat) : mj_F := fun x q => if x = 235 ∧ q + 125 < k then f 235 (q + 125) else f x q
/-- m slots of now into the past's row d -/
def cpn (f : mj_F) (d m : Nat) : mj_F := fun x q => if x = 235 ∧ 125 * d ≤ q ∧ q < 125 * d + m then f 234 (q - 125 * d) else f x q
/-- m slots of the past's row d into now -/
def bkn (f : mj_F) (d m : Nat) : mj_F := fun x q => if x = 234 ∧ q < m then f 235 (125 * d + q) else f x q
/-- the square A of side n stored at table t: rows below k, of row k columns below l -/
def stq (f : mj_F) (t n k l : Nat) (A : Mt) : mj_F := fun x q => if x = 234 ∧ 25 * t ≤ q ∧ q < 25 * t + 25 ∧ ((q - 25 * t) / 5 < k ∧ (q - 25 * t) % 5 < n ∨ (q - 25 * t) / 5 = k ∧ (q - 25 * t) % 5 < l) then A ((q - 25 * t) / 5) ((q - 25 * t) % 5) else f x q
theorem rq_u {f : mj_F} {n v : Int} {A : Mt} {a k : Nat} {b : Int} (h1 : a ≠ 223) (h2 : a ≠ 252) : mj_u (rq f n v A) a k b = rq (mj_u f a k b) n v A := by
  unfold rq
  rw [sm_u h2]
  congr 1
  funext x q
  unfold mj_u
  by_cases h : x = a ∧ q = k
  · rw [if_pos h, if_neg (by omega), if_neg (by omega), if_pos h]
  · rw [if_neg h, if_neg h]
section RR
variable {sw : Bool} {w : mj_W}
theorem M_keeps_lt (hw : wk sw w) (F : mj_F) {d : Nat} (hd : F 223 18 = (d : Int)) (h15 : d ≤ 15) : mj_run yM_keeps w F 52 [.inr (.inl 223), .inl 0] [] = some (w, mj_u (cpn F d 125) 223 18 ((d + 1 : Nat) : Int), none) := by
  have hdm : ∀ m, cpn F d m 223 18 = (d : Int) := by
    intro m
    unfold cpn
    rw [if_neg (by omega)]
    exact hd
  have h := loop_st (fun k => mj_run yM_keeps w (cpn F d k) 52 [.inr (.inl 223), .inl (k : Int)] []) (Nat.zero_le 125) (fun k _ hk => by
    have e1 : mj_w (mj_w (125 * (d : Int)) + (k : Int)) = ((125 * d + k : Nat) : Int) := by unfold mj_w; omega
    rw [l_M_keeps_52 hw, if_neg (by omega), hdm, e1, mj_gd_pos ⟨by omega, by omega⟩, mj_gd_pos ⟨by omega, by omega⟩, Int.toNat_natCast, Int.toNat_natCast, wS (by omega)]
    have e2 : mj_u (cpn F d k) 235 (125 * d + k) (cpn F d k 234 k) = cpn F d (k + 1) := by
      funext x q
      unfold mj_u cpn
      by_cases h1 : x = 235 ∧ q = 125 * d + k
      · rw [if_pos h1, if_neg (by omega), if_pos (by omega), show q - 125 * d = k by omega]
      · rw [if_neg h1]
        exact ifc (by omega) rfl rfl
    rw [e2])
  have e0 : cpn F d 0 = F := by
    funext x q
    unfold cpn
    rw [if_neg (by omega)]
  simp only [e0] at h
  refine h.trans ?_
  rw [l_M_keeps_52 hw, if_pos (by omega), hdm, wS (by omega)]
theorem M_keeps (hw : wk sw w) (F : mj_F) {d : Nat} (hd : F 223 18 = (d : Int)) (h15 : d ≤ 15) : mj_call yM_keeps w F [.inr (.inl 223)] = some (w, mj_u (cpn F d 125) 223 18 ((d + 1 : Nat) : Int), none) := by
  rw [c_M_keeps hw, hd, if_pos (by omega)]
  exact M_keeps_lt hw F hd h15
theorem M_keeps_16 (hw : wk sw w) (F : mj_F) (hd : F 223 18 = 16) : mj_call yM_keeps w F [.inr (.inl 223)] = some (w, mj_u (cpn (mj_u (shf F 2000) 223 18 15) 15 125) 223 18 16, none) := by
  rw [c_M_keeps hw, hd, if_neg (by omega)]
  have h := loop_st (fun k => mj_run yM_keeps w (shf F k) 12 [.inr (.inl 223), .inl (k : Int)] []) (show 125 ≤ 2000 by decide) (fun k hk1 hk => by
    have e1 : mj_w ((k : Int) - 125) = ((k - 125 : Nat) : Int) := by unfold mj_w; omega
    rw [l_M_keeps_12 hw, if_neg (by omega), e1, mj_gd_pos ⟨by omega, by omega⟩, mj_gd_pos ⟨by omega, by omega⟩, Int.toNat_natCast, Int.toNat_natCast, wS (by omega)]
    have e2 : mj_u (shf F k) 235 (k - 125) (shf F k 235 k) = shf F (k + 1) := by
      funext x q
      unfold mj_u shf
      by_cases h1 : x = 235 ∧ q = k - 125
      · rw [if_pos h1, if_neg (by omega), if_pos (by omega), show q + 125 = k by omega]
      · rw [if_neg h1]
        exact ifc (by omega) rfl rfl
    rw [e2])
  have e0 : shf F 125 = F := by
    funext x q
    unfold shf
    rw [if_neg (by omega)]
  simp only [e0] at h
  refine h.trans ?_
  have e1 : shf F 2000 223 18 = 16 := by
    unfold shf
    rw [if_neg (by omega)]
    exact hd
  rw [l_M_keeps_12 hw, if_pos (by omega), e1, show mj_w (16 - 1) = 15 by decide]
  exact M_keeps_lt hw (mj_u (shf F 2000) 223 18 15) (d := 15) u_self (by decide)
theorem R_stores (hw : wk sw w) (f : mj_F) {n t : Nat} (hn : n ≤ 5) (ht : t < 4) (v : Int) (A : Mt) : mj_call yM_stores w (rq f n v A) [.inr (.inl 223), .inl (t : Int)] = some (w, rq (mj_u (stq f t n n 0 A) 234 (100 + t) (if v = 0 then 0 else 1)) n v A, none) := by
  have e1 : mj_w (100 + (t : Int)) = ((100 + t : Nat) : Int) := by unfold mj_w; omega
  rw [c_M_stores hw]
  obtain ⟨u, h⟩ := loop_ex (fun k (_ : Unit) (u : mj_V) => mj_run yM_stores w (rq (stq f t n k 0 A) n v A) 2 [.inr (.inl 223), .inl (t : Int), .inl (k : Int), u] []) (fun _ a => a) n (fun k _ u hk => by
    rw [l_M_stores_2 hw, rq_n, if_neg (by omega)]
    have h := loop_st (fun l => mj_run yM_stores w (rq (stq f t n k l A) n v A) 12 [.inr (.inl 223), .inl (t : Int), .inl (k : Int), .inl (l : Int)] []) (Nat.zero_le n) (fun l _ hl => by
      rw [l_M_stores_12 hw, rq_n, if_neg (by omega), R_get hw _ _ v _ (by omega) (by omega), mj_bi_some, ix5 (by omega) (by omega) (by omega), mj_gd_pos ⟨by omega, by omega⟩, Int.toNat_natCast, wS (by omega), rq_u (by decide) (by decide)]
      have e2 : mj_u (stq f t n k l A) 234 (25 * t + 5 * k + l) (A k l) = stq f t n k (l + 1) A := by
        funext x q
        unfold mj_u stq
        by_cases h1 : x = 234 ∧ q = 25 * t + 5 * k + l
        · have a1 : (q - 25 * t) / 5 = k := by omega
          have a2 : (q - 25 * t) % 5 = l := by omega
          rw [if_pos h1, if_pos (by omega), a1, a2]
        · rw [if_neg h1]
          exact ifc (by omega) rfl rfl
      rw [e2])
    refine ⟨.inl (n : Int), h.trans ?_⟩
    rw [l_M_stores_12 hw, rq_n, if_pos (by omega), wS (by omega)]
    have : stq f t n k n A = stq f t n (k + 1) 0 A := by
      funext x q
      unfold stq
      exact ifc (by omega) rfl rfl
    rw [this]) () (.inr (.inr (.inr 0)))
  have e0 : stq f t n 0 0 A = f := by
    funext x q
    unfold stq
    rw [if_neg (by omega)]
  rw [e0] at h
  refine h.trans ?_
  rw [l_M_stores_2 hw, rq_n, if_pos (by omega), rq_v, e1, mj_gd_pos ⟨by omega, by omega⟩, Int.toNat_natCast, rq_u (by decide) (by decide), mj_gd_pos ⟨by omega, by omega⟩, rq_u (by decide) (by decide)]
  by_cases h0 : v = 0
  · rw [if_pos h0, if_pos h0]
  · rw [if_neg h0, if_neg h0]
end RR
