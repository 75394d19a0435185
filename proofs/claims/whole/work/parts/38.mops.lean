/-! The reference's square at work: meets, whens, ups, downs, sets, frees, stays, steps. -/
/-- the square that is worked on: its side, whether it is void, its bounds -/
def rq (f : mj_F) (n v : Int) (A : Mt) : mj_F := sm 252 62 (mj_u (mj_u f 223 52 n) 223 53 v) A
theorem rq_n {f : mj_F} {n v : Int} {A : Mt} : rq f n v A 223 52 = n := by
  unfold rq
  rw [sm_o (by decide), u_o (Or.inr (by decide)), u_self]
theorem rq_v {f : mj_F} {n v : Int} {A : Mt} : rq f n v A 223 53 = v := by
  unfold rq
  rw [sm_o (by decide), u_self]
theorem rq_o {f : mj_F} {n v : Int} {A : Mt} {a q : Nat} (h1 : a ≠ 223) (h2 : a ≠ 252) : rq f n v A a q = f a q := by
  unfold rq
  rw [sm_o h2, u_o (Or.inl h1), u_o (Or.inl h1)]
theorem rq_f {f : mj_F} {n v : Int} {A : Mt} {k : Nat} (h1 : k ≠ 52) (h2 : k ≠ 53) : rq f n v A 223 k = f 223 k := by
  unfold rq
  rw [sm_o (by decide), u_o (Or.inr h2), u_o (Or.inr h1)]
theorem rq_pv {f : mj_F} {n v v' : Int} {A : Mt} : mj_u (rq f n v A) 223 53 v' = rq f n v' A := by
  unfold rq
  rw [sm_u (by decide), mu_u]
section RR
variable {sw : Bool} {w : mj_W}
theorem R_get (hw : wk sw w) (f : mj_F) (n v : Int) (A : Mt) {i j : Nat} (hi : i < 62) (hj : j < 62) : mj_call yM_get w (rq f n v A) [.inr (.inl 223), .inl (i : Int), .inl (j : Int)] = some (w, rq f n v A, some (.inl (A i j))) := M_sget hw _ A hi hj
theorem R_put (hw : wk sw w) (f : mj_F) (n v : Int) (A : Mt) {i j : Nat} (b : Int) (hi : i < 62) (hj : j < 62) : mj_call yM_put w (rq f n v A) [.inr (.inl 223), .inl (i : Int), .inl (j : Int), .inl b] = some (w, rq f n v (um A i j b), none) := by
  unfold rq
  rw [M_put hw _ b hi hj, sm_put hi hj]
theorem R_tight (hw : wk sw w) (f : mj_F) (n v : Int) (A : Mt) {i j : Nat} (b : Int) (hi : i < 62) (hj : j < 62) : mj_call yM_tightens w (rq f n v A) [.inr (.inl 223), .inl (i : Int), .inl (j : Int), .inl b] = some (w, rq f n v (tg A i j b), none) := M_tightens hw _ A b hi hj
/-- closes(): flag, square -/
def rcl (n : Nat) (q : Int × Mt) : Int × Mt := (ngv n (fw n q.2) q.1, fw n q.2)
theorem R_closes (hw : wk sw w) (f : mj_F) {n : Nat} (hn : n ≤ 61) (q : Int × Mt) (hv : q.1 = 0 ∨ q.1 = 1) : mj_call yM_closes w (rq f n q.1 q.2) [.inr (.inl 223)] = some (w, rq f n (rcl n q).1 (rcl n q).2, none) := by
  have h1 : mj_u (mj_u f 223 52 (n : Int)) 223 53 q.1 223 52 = (n : Int) := by rw [u_o (Or.inr (by decide)), u_self]
  have h2 : mj_u (mj_u f 223 52 (n : Int)) 223 53 q.1 223 53 = q.1 := u_self
  have h := M_closes hw hn h1 (by rw [h2]; exact hv) q.2
  rw [h2, mu_u] at h
  exact h
theorem rcl_01 (n : Nat) (q : Int × Mt) (hv : q.1 = 0 ∨ q.1 = 1) : (rcl n q).1 = 0 ∨ (rcl n q).1 = 1 := ngv_01 n _ hv
/-- MEET in the reference, not yet closed -/
def rmt (i j : Nat) (rel n : Int) (A : Mt) : Mt :=
  if 2 ≤ rel then tg (if rel ≤ 2 then tg A i j (if rel = 0 then mj_w (2 * n) else am n) else A) j i (if rel = 4 then mj_w ((-2) * n) else am (mj_w (-n)))
  else (if rel ≤ 2 then tg A i j (if rel = 0 then mj_w (2 * n) else am n) else A)
theorem R_meets (hw : wk sw w) (f : mj_F) (n v : Int) (A : Mt) {i j : Nat} (rel k : Int) (hi : i < 62) (hj : j < 62) : mj_call yM_meets w (rq f n v A) [.inr (.inl 223), .inl (i : Int), .inl (j : Int), .inl rel, .inl k] = some (w, rq f n v (rmt i j rel k A), none) := by
  have hR : ∀ (F : mj_F) (b : Int), mj_call yM_reachedS w F [.inl b] = some (w, F, some (.inl (am b))) := fun F b => c_M_reachedS hw F b
  rw [c_M_meets hw]
  simp only [hR, mj_bi_some, R_tight hw f n v _ _ hi hj, R_tight hw f n v _ _ hj hi, mj_bu_some]
  unfold rmt
  by_cases h2 : 2 < rel
  · rw [if_pos h2, if_neg (by omega), if_pos (by omega : 2 ≤ rel), if_neg (by omega : ¬ rel ≤ 2)]
    by_cases h4 : rel = 4
    · rw [if_neg (fun q => q h4), if_pos h4]
    · rw [if_pos h4, if_neg h4]
  · rw [if_neg h2, if_pos (by omega : rel ≤ 2)]
    by_cases h0 : rel = 0
    · rw [if_neg (fun q => q h0), if_pos h0, if_pos (by omega), if_neg (by omega)]
    · rw [if_pos h0, if_neg h0]
      by_cases h1 : rel < 2
      · rw [if_pos h1, if_neg (by omega : ¬ 2 ≤ rel)]
      · rw [if_neg h1, if_pos (by omega : ¬ rel = 4), if_pos (by omega : 2 ≤ rel), if_neg (by omega : ¬ rel = 4)]
/-- whens, not yet closed -/
def rwh (f : mj_F) (l m : Nat) (A : Mt) : Mt := itr m (fun k A => rmt ((f 225 (6 * l + k)).toNat + 1) 0 (f 226 (6 * l + k)) (f 227 (6 * l + k)) A) A
theorem R_whens (hw : wk sw w) (f : mj_F) {n l m : Nat} (hn : n ≤ 61) (hl : l < 24) (hm : f 224 l = (m : Int)) (hm6 : m ≤ 6) (hc : ∀ k, k < m → 0 ≤ f 225 (6 * l + k) ∧ f 225 (6 * l + k) < 5) (q : Int × Mt) (hv : q.1 = 0 ∨ q.1 = 1) : mj_call yM_whens w (rq f n q.1 q.2) [.inr (.inl 223), .inl (l : Int)] = some (w, rq f n (rcl n (q.1, rwh f l m q.2)).1 (rcl n (q.1, rwh f l m q.2)).2, none) := by
  have e0 : mj_w (6 * (l : Int)) = ((6 * l + 0 : Nat) : Int) := by unfold mj_w; omega
  rw [c_M_whens hw, e0]
  have h := loop_eq (fun k A => mj_run yM_whens w (rq f n q.1 A) 5 [.inr (.inl 223), .inl (l : Int), .inl ((6 * l + k : Nat) : Int)] []) (fun k A => rmt ((f 225 (6 * l + k)).toNat + 1) 0 (f 226 (6 * l + k)) (f 227 (6 * l + k)) A) m (fun k A hk => by
    have e1 : mj_w (mj_w (6 * (l : Int)) + (m : Int)) = ((6 * l + m : Nat) : Int) := by unfold mj_w; omega
    have hck := hc k hk
    have e2 : mj_w (f 225 (6 * l + k) + 1) = (((f 225 (6 * l + k)).toNat + 1 : Nat) : Int) := by unfold mj_w; omega
    have g : (0 : Int) ≤ ((6 * l + k : Nat) : Int) ∧ ((6 * l + k : Nat) : Int) < ((144 : Nat) : Int) := ⟨by omega, by omega⟩
    rw [l_M_whens_5 hw, mj_gd_pos ⟨by omega, by omega⟩, Int.toNat_natCast, rq_o (by decide) (by decide), hm, e1, if_neg (by omega), mj_gd_pos g, mj_gd_pos g, mj_gd_pos g, Int.toNat_natCast, rq_o (by decide) (by decide), rq_o (by decide) (by decide), rq_o (by decide) (by decide), e2]
    have t := R_meets hw f n q.1 A (i := (f 225 (6 * l + k)).toNat + 1) (j := 0) (f 226 (6 * l + k)) (f 227 (6 * l + k)) (by omega) (by omega)
    rw [show ((0 : Nat) : Int) = 0 from rfl] at t
    rw [t, mj_bu_some, wS (by omega)]
    rfl) q.2
  refine h.trans ?_
  have e1 : mj_w (mj_w (6 * (l : Int)) + (m : Int)) = ((6 * l + m : Nat) : Int) := by unfold mj_w; omega
  rw [l_M_whens_5 hw, mj_gd_pos ⟨by omega, by omega⟩, Int.toNat_natCast, rq_o (by decide) (by decide), hm, e1, if_pos (by omega)]
  have t := R_closes hw f hn (q.1, rwh f l m q.2) hv
  have t2 : mj_call yM_closes w (rq f n q.1 (itr m (fun k A => rmt ((f 225 (6 * l + k)).toNat + 1) 0 (f 226 (6 * l + k)) (f 227 (6 * l + k)) A) q.2)) [.inr (.inl 223)] = _ := t
  rw [t2, mj_bu_some]
def rup (n : Nat) (A : Mt) : Mt := fun i j => if j = 0 ∧ 1 ≤ i ∧ i < n then 1000000 else A i j
theorem R_ups (hw : wk sw w) (f : mj_F) {n : Nat} (h1 : 1 ≤ n) (hn : n ≤ 61) (v : Int) (A : Mt) : mj_call yM_ups w (rq f n v A) [.inr (.inl 223)] = some (w, rq f n v (rup n A), none) := by
  rw [c_M_ups hw]
  have h := loop_st (fun c => mj_run yM_ups w (rq f n v (rup c A)) 2 [.inr (.inl 223), .inl (c : Int)] []) h1 (fun c hc1 hc => by
    rw [l_M_ups_2 hw, rq_n, if_neg (by omega), show (0 : Int) = ((0 : Nat) : Int) from rfl, R_put hw f n v _ _ (by omega) (by omega), mj_bu_some, wS (by omega)]
    congr 2
    funext i j
    unfold um rup
    by_cases hx : i = c ∧ j = 0
    · rw [if_pos hx, if_pos (by omega)]
    · rw [if_neg hx]
      exact ifc (by omega) rfl rfl)
  have h0 : rup 1 A = A := by
    funext i j
    unfold rup
    rw [if_neg (by omega)]
  rw [h0] at h
  refine h.trans ?_
  rw [l_M_ups_2 hw, rq_n, if_pos (by omega)]
def rdn (n : Nat) (A : Mt) : Mt := fun i j => if i = 0 ∧ 1 ≤ j ∧ j < n then 1 else A i j
theorem R_downs (hw : wk sw w) (f : mj_F) {n : Nat} (h1 : 1 ≤ n) (hn : n ≤ 61) (q : Int × Mt) (hv : q.1 = 0 ∨ q.1 = 1) : mj_call yM_downs w (rq f n q.1 q.2) [.inr (.inl 223)] = some (w, rq f n (rcl n (q.1, rdn n q.2)).1 (rcl n (q.1, rdn n q.2)).2, none) := by
  rw [c_M_downs hw]
  have h := loop_st (fun c => mj_run yM_downs w (rq f n q.1 (rdn c q.2)) 2 [.inr (.inl 223), .inl (c : Int)] []) h1 (fun c hc1 hc => by
    rw [l_M_downs_2 hw, rq_n, if_neg (by omega), show (0 : Int) = ((0 : Nat) : Int) from rfl, R_put hw f n q.1 _ _ (by omega) (by omega), mj_bu_some, wS (by omega)]
    congr 2
    funext i j
    unfold um rdn
    by_cases hx : i = 0 ∧ j = c
    · rw [if_pos hx, if_pos (by omega)]
    · rw [if_neg hx]
      exact ifc (by omega) rfl rfl)
  have h0 : rdn 1 q.2 = q.2 := by
    funext i j
    unfold rdn
    rw [if_neg (by omega)]
  rw [h0] at h
  refine h.trans ?_
  rw [l_M_downs_2 hw, rq_n, if_pos (by omega), R_closes hw f hn (q.1, rdn n q.2) hv, mj_bu_some]
end RR
