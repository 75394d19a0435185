/-! The reference's square: get, put, plus, tightens, closes. -/
section MM
variable {sw : Bool} {w : mj_W}
/-- the reference's sum of two bounds -/
def rs (a b : Int) : Int := mj_or (mj_w (mj_and a (-2) + mj_and b (-2))) (mj_and (mj_and a b) 1)
def rp (a b : Int) : Int := if 1000000 ≤ a then 1000000 else if b < 1000000 then rs a b else 1000000
theorem M_get (hw : wk sw w) (F : mj_F) {i j : Nat} (hi : i < 62) (hj : j < 62) : mj_call yM_get w F [.inr (.inl 223), .inl (i : Int), .inl (j : Int)] = some (w, F, some (.inl (F 252 (62 * i + j)))) := by
  have e : mj_w (mj_w (62 * (i : Int)) + (j : Int)) = ((62 * i + j : Nat) : Int) := by unfold mj_w; omega
  rw [c_M_get hw, e, mj_gd_pos ⟨by omega, by omega⟩, Int.toNat_natCast]
theorem M_put (hw : wk sw w) (F : mj_F) {i j : Nat} (v : Int) (hi : i < 62) (hj : j < 62) : mj_call yM_put w F [.inr (.inl 223), .inl (i : Int), .inl (j : Int), .inl v] = some (w, mj_u F 252 (62 * i + j) v, none) := by
  have e : mj_w (mj_w (62 * (i : Int)) + (j : Int)) = ((62 * i + j : Nat) : Int) := by unfold mj_w; omega
  rw [c_M_put hw, e, mj_gd_pos ⟨by omega, by omega⟩, Int.toNat_natCast]
theorem M_plus (hw : wk sw w) (F : mj_F) (a b : Int) : mj_call yM_plus w F [.inl a, .inl b] = some (w, F, some (.inl (rp a b))) := by
  rw [c_M_plus hw]
  unfold rp
  split
  · rfl
  · split
    · rfl
    · rfl
/-- a bound is tightened -/
def tg (A : Mt) (i j : Nat) (b : Int) : Mt := if b < A i j then um A i j b else A
theorem M_tightens (hw : wk sw w) (f : mj_F) (A : Mt) {i j : Nat} (b : Int) (hi : i < 62) (hj : j < 62) : mj_call yM_tightens w (sm 252 62 f A) [.inr (.inl 223), .inl (i : Int), .inl (j : Int), .inl b] = some (w, sm 252 62 f (tg A i j b), none) := by
  rw [c_M_tightens hw, M_get hw _ hi hj, mj_bi_some, sm_get hi hj]
  unfold tg
  by_cases h : b < A i j
  · rw [if_neg (by omega), M_put hw _ b hi hj, mj_bu_some, sm_put hi hj, if_pos h]
  · rw [if_pos (by omega), if_neg h]
theorem M_sget (hw : wk sw w) (f : mj_F) (A : Mt) {i j : Nat} (hi : i < 62) (hj : j < 62) : mj_call yM_get w (sm 252 62 f A) [.inr (.inl 223), .inl (i : Int), .inl (j : Int)] = some (w, sm 252 62 f A, some (.inl (A i j))) := by
  rw [M_get hw _ hi hj, sm_get hi hj]
def fwj (n k i : Nat) (A : Mt) : Mt := itr n (fun j A => tg A i j (rp (A i k) (A k j))) A
def fwi (n k : Nat) (A : Mt) : Mt := itr n (fun i A => if 1000000 ≤ A i k then A else fwj n k i A) A
/-- the reference's closing -/
def fw (n : Nat) (A : Mt) : Mt := itr n (fun k A => fwi n k A) A
theorem M_closes_j (hw : wk sw w) {f : mj_F} {n k i : Nat} (hn : n ≤ 61) (hf : f 223 52 = (n : Int)) (hk : k < 62) (hi : i < 62) (A : Mt) : mj_run yM_closes w (sm 252 62 f A) 37 [.inr (.inl 223), .inl (k : Int), .inl (i : Int), .inl 0] [] = mj_run yM_closes w (sm 252 62 f (fwj n k i A)) 12 [.inr (.inl 223), .inl (k : Int), .inl ((i + 1 : Nat) : Int), .inl (n : Int)] [] := by
  have h := loop_eq (fun j A => mj_run yM_closes w (sm 252 62 f A) 37 [.inr (.inl 223), .inl (k : Int), .inl (i : Int), .inl (j : Int)] []) (fun j A => tg A i j (rp (A i k) (A k j))) n (fun j A hj => by
    rw [l_M_closes_37 hw, sm_o (by decide), hf, if_neg (by omega), M_sget hw f A hi hk, mj_bi_some, M_sget hw f A hk (by omega), mj_bi_some, M_plus hw, mj_bi_some, M_tightens hw f A _ hi (by omega), mj_bu_some, wS (by omega)]) A
  refine h.trans ?_
  rw [l_M_closes_37 hw, sm_o (by decide), hf, if_pos (by omega), wS (by omega)]
  rfl
theorem M_closes_i (hw : wk sw w) {f : mj_F} {n k : Nat} (hn : n ≤ 61) (hf : f 223 52 = (n : Int)) (hk : k < 62) (A : Mt) (u : mj_V) : ∃ u' : mj_V, mj_run yM_closes w (sm 252 62 f A) 12 [.inr (.inl 223), .inl (k : Int), .inl 0, u] [] = mj_run yM_closes w (sm 252 62 f (fwi n k A)) 2 [.inr (.inl 223), .inl ((k + 1 : Nat) : Int), .inl (n : Int), u'] [] := by
  obtain ⟨u', h⟩ := loop_ex (fun i A (u : mj_V) => mj_run yM_closes w (sm 252 62 f A) 12 [.inr (.inl 223), .inl (k : Int), .inl (i : Int), u] []) (fun i A => if 1000000 ≤ A i k then A else fwj n k i A) n (fun i A u hi => by
    rw [l_M_closes_12 hw, sm_o (by decide), hf, if_neg (by omega), M_sget hw f A (by omega) hk, mj_bi_some]
    by_cases hc : 1000000 ≤ A i k
    · exact ⟨u, by rw [if_neg (by omega), if_pos hc, wS (by omega)]⟩
    · exact ⟨_, by rw [if_pos (by omega), if_neg hc, M_closes_j hw hn hf hk (by omega)]⟩) A u
  refine ⟨u', h.trans ?_⟩
  rw [l_M_closes_12 hw, sm_o (by decide), hf, if_pos (by omega), wS (by omega)]
  rfl
theorem M_closes_k (hw : wk sw w) {f : mj_F} {n : Nat} (hn : n ≤ 61) (hf : f 223 52 = (n : Int)) (A : Mt) (u : mj_V × mj_V) : ∃ u' : mj_V × mj_V, mj_run yM_closes w (sm 252 62 f A) 2 [.inr (.inl 223), .inl 0, u.1, u.2] [] = mj_run yM_closes w (sm 252 62 f (fw n A)) 86 [.inr (.inl 223), .inl 0, u'.1, u'.2] [] := by
  obtain ⟨u', h⟩ := loop_ex (fun k A (u : mj_V × mj_V) => mj_run yM_closes w (sm 252 62 f A) 2 [.inr (.inl 223), .inl (k : Int), u.1, u.2] []) (fun k A => fwi n k A) n (fun k A u hk => by
    rw [l_M_closes_2 hw, sm_o (by decide), hf, if_neg (by omega)]
    obtain ⟨u', h'⟩ := M_closes_i hw hn hf (by omega : k < 62) A u.2
    exact ⟨(.inl (n : Int), u'), h'⟩) A u
  refine ⟨u', h.trans ?_⟩
  rw [l_M_closes_2 hw, sm_o (by decide), hf, if_pos (by omega)]
  rfl
/-- is a diagonal below "at most 0" -/
def ngv (n : Nat) (A : Mt) (v : Int) : Int := itr n (fun i v => if A i i < 1 then 1 else v) v
theorem or_0 {v : Int} (h : v = 0 ∨ v = 1) : mj_or v 0 = v := by rcases h with rfl | rfl <;> decide
theorem or_1 {v : Int} (h : v = 0 ∨ v = 1) : mj_or v 1 = 1 := by rcases h with rfl | rfl <;> decide
theorem ngv_01 (n : Nat) (A : Mt) {v : Int} (h : v = 0 ∨ v = 1) : ngv n A v = 0 ∨ ngv n A v = 1 := by
  unfold ngv
  induction n with
  | zero => exact h
  | succ n ih =>
    show (if _ then _ else _ : Int) = 0 ∨ (if _ then _ else _ : Int) = 1
    split
    · exact Or.inr rfl
    · exact ih
theorem mu_same {f : mj_F} {a k : Nat} {v : Int} (h : f a k = v) : mj_u f a k v = f := by
  funext b q
  unfold mj_u
  split
  · next z => rw [z.1, z.2, h]
  · rfl
theorem mu_u {f : mj_F} {a k : Nat} {v v' : Int} : mj_u (mj_u f a k v) a k v' = mj_u f a k v' := by
  funext b q
  unfold mj_u
  split <;> rfl
/-- closes(): the square is closed, isVoid tells whether a diagonal fell -/
theorem M_closes (hw : wk sw w) {f : mj_F} {n : Nat} (hn : n ≤ 61) (hf : f 223 52 = (n : Int)) (hv : f 223 53 = 0 ∨ f 223 53 = 1) (A : Mt) : mj_call yM_closes w (sm 252 62 f A) [.inr (.inl 223)] = some (w, sm 252 62 (mj_u f 223 53 (ngv n (fw n A) (f 223 53))) (fw n A), none) := by
  rw [c_M_closes hw]
  obtain ⟨u, h⟩ := M_closes_k hw hn hf A (.inr (.inr (.inr 0)), .inr (.inr (.inr 0)))
  refine h.trans ?_
  generalize fw n A = B
  have h2 := (loop_itr (fun i (v : Int) => mj_run yM_closes w (sm 252 62 (mj_u f 223 53 v) B) 86 [.inr (.inl 223), .inl (i : Int), u.1, u.2] []) (fun _ v => v = 0 ∨ v = 1) (fun i v => if B i i < 1 then 1 else v) n (fun i v hi hp => by
    refine ⟨?_, ?_⟩
    · rw [l_M_closes_86 hw, sm_o (by decide), u_o (Or.inr (by decide)), hf, if_neg (by omega), M_sget hw _ B (by omega) (by omega), mj_bi_some, sm_o (by decide), u_self, or_0 hp, or_1 hp]
      by_cases hc : B i i < 1
      · rw [if_neg (by omega), if_pos hc, mj_gd_pos (Or.inr rfl), sm_u (by decide), mu_u, wS (by omega)]
      · rw [if_pos (by omega), if_neg hc, mj_gd_pos hp, sm_u (by decide), mu_u, wS (by omega)]
    · split
      · exact Or.inr rfl
      · exact hp) (f 223 53) hv).1
  rw [mu_same rfl] at h2
  refine h2.trans ?_
  rw [l_M_closes_86 hw, sm_o (by decide), u_o (Or.inr (by decide)), hf, if_pos (by omega)]
  rfl
end MM
