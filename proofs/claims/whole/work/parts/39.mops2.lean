/-! The reference: sets, frees, stays, steps, nought, wide. -/
section RR
variable {sw : Bool} {w : mj_W}
def rst (n c : Nat) (a b : Int) (A : Mt) : Mt := fun x y => if x = c ∧ y < n ∧ y ≠ c then rp a (A 0 y) else if y = c ∧ x < n ∧ x ≠ c then rp (A x 0) b else A x y
theorem R_sets (hw : wk sw w) (f : mj_F) {n c : Nat} (h1 : 1 ≤ c) (hc : c < 62) (hn : n ≤ 61) (v : Int) (A : Mt) (k : Int) : mj_call yM_sets w (rq f n v A) [.inr (.inl 223), .inl (c : Int), .inl k] = some (w, rq f n v (rst n c (am k) (am (mj_w (-k))) A), none) := by
  have hR : ∀ (F : mj_F) (b : Int), mj_call yM_reachedS w F [.inl b] = some (w, F, some (.inl (am b))) := fun F b => c_M_reachedS hw F b
  rw [c_M_sets hw]
  have h := loop_st (fun j => mj_run yM_sets w (rq f n v (rst j c (am k) (am (mj_w (-k))) A)) 2 [.inr (.inl 223), .inl (c : Int), .inl k, .inl (j : Int)] []) (Nat.zero_le n) (fun j _ hj => by
    rw [l_M_sets_2 hw, rq_n, if_neg (by omega)]
    by_cases hjc : j = c
    · rw [if_neg (by omega), wS (by omega)]
      congr 2
      funext x y
      unfold rst
      exact ifc (by omega) rfl (ifc (by omega) rfl rfl)
    · rw [if_pos (by omega), hR, mj_bi_some, show (0 : Int) = ((0 : Nat) : Int) from rfl, R_get hw f n v _ (by omega) (by omega), mj_bi_some, M_plus hw, mj_bi_some, R_put hw f n v _ _ hc (by omega), mj_bu_some, R_get hw f n v _ (by omega) (by omega), mj_bi_some, hR, mj_bi_some, M_plus hw, mj_bi_some, R_put hw f n v _ _ (by omega) hc, mj_bu_some, wS (by omega)]
      congr 2
      have r1 : rst j c (am k) (am (mj_w (-k))) A 0 j = A 0 j := by
        unfold rst
        rw [if_neg (by omega), if_neg (by omega)]
      have r2 : um (rst j c (am k) (am (mj_w (-k))) A) c j (rp (am k) (A 0 j)) j 0 = A j 0 := by
        unfold um rst
        rw [if_neg (by omega), if_neg (by omega), if_neg (by omega)]
      rw [r1, r2]
      funext x y
      unfold um rst
      by_cases hA : x = j ∧ y = c
      · rw [if_pos hA, if_neg (by omega), if_pos (by omega), hA.1]
      · rw [if_neg hA]
        by_cases hB : x = c ∧ y = j
        · rw [if_pos hB, if_pos (by omega), hB.2]
        · rw [if_neg hB]
          exact ifc (by omega) rfl (ifc (by omega) rfl rfl))
  have h0 : rst 0 c (am k) (am (mj_w (-k))) A = A := by
    funext x y
    unfold rst
    rw [if_neg (by omega), if_neg (by omega)]
  rw [h0] at h
  refine h.trans ?_
  rw [l_M_sets_2 hw, rq_n, if_pos (by omega)]
def rfr (n c : Nat) (A : Mt) : Mt := fun x y => if x = c ∧ y < n ∧ y ≠ c then 1000000 else if y = c ∧ x < n ∧ x ≠ c then A x 0 else A x y
theorem R_frees (hw : wk sw w) (f : mj_F) {n c : Nat} (h1 : 1 ≤ c) (hc : c < 62) (hn : n ≤ 61) (v : Int) (A : Mt) : mj_call yM_frees w (rq f n v A) [.inr (.inl 223), .inl (c : Int)] = some (w, rq f n v (um (rfr n c A) 0 c 1), none) := by
  rw [c_M_frees hw]
  have h := loop_st (fun j => mj_run yM_frees w (rq f n v (rfr j c A)) 2 [.inr (.inl 223), .inl (c : Int), .inl (j : Int)] []) (Nat.zero_le n) (fun j _ hj => by
    rw [l_M_frees_2 hw, rq_n, if_neg (by omega)]
    by_cases hjc : j = c
    · rw [if_neg (by omega), wS (by omega)]
      congr 2
      funext x y
      unfold rfr
      exact ifc (by omega) rfl (ifc (by omega) rfl rfl)
    · rw [if_pos (by omega), R_put hw f n v _ _ hc (by omega), mj_bu_some, show (0 : Int) = ((0 : Nat) : Int) from rfl, R_get hw f n v _ (by omega) (by omega), mj_bi_some, R_put hw f n v _ _ (by omega) hc, mj_bu_some, wS (by omega)]
      congr 2
      have r2 : um (rfr j c A) c j 1000000 j 0 = A j 0 := by
        unfold um rfr
        rw [if_neg (by omega), if_neg (by omega), if_neg (by omega)]
      rw [r2]
      funext x y
      unfold um rfr
      by_cases hA : x = j ∧ y = c
      · rw [if_pos hA, if_neg (by omega), if_pos (by omega), hA.1]
      · rw [if_neg hA]
        by_cases hB : x = c ∧ y = j
        · rw [if_pos hB, if_pos (by omega)]
        · rw [if_neg hB]
          exact ifc (by omega) rfl (ifc (by omega) rfl rfl))
  have h0 : rfr 0 c A = A := by
    funext x y
    unfold rfr
    rw [if_neg (by omega), if_neg (by omega)]
  rw [h0] at h
  refine h.trans ?_
  have t := R_put hw f n v (rfr n c A) (i := 0) (j := c) 1 (by omega) hc
  rw [show ((0 : Nat) : Int) = 0 from rfl] at t
  rw [l_M_frees_2 hw, rq_n, if_pos (by omega), t, mj_bu_some]
/-- the reference's plan has what a list of whens must have -/
def mkr (f : mj_F) (l : Nat) : Prop := ∃ m : Nat, f 224 l = (m : Int) ∧ m ≤ 6 ∧ ∀ k, k < m → 0 ≤ f 225 (6 * l + k) ∧ f 225 (6 * l + k) < 5
def mks (f : mj_F) (e : Nat) : Prop := ∃ m : Nat, f 230 e = (m : Int) ∧ m ≤ 4 ∧ ∀ k, k < m → 0 ≤ f 231 (4 * e + k) ∧ f 231 (4 * e + k) < 5
/-- whens kept and closed: flag, square -/
def rwc (f : mj_F) (n l : Nat) (q : Int × Mt) : Int × Mt := rcl n (q.1, rwh f l (f 224 l).toNat q.2)
theorem rwc_01 (f : mj_F) (n l : Nat) (q : Int × Mt) (hv : q.1 = 0 ∨ q.1 = 1) : (rwc f n l q).1 = 0 ∨ (rwc f n l q).1 = 1 := rcl_01 n _ hv
theorem R_when (hw : wk sw w) (f : mj_F) {n l : Nat} (hn : n ≤ 61) (hl : l < 24) (ho : mkr f l) (q : Int × Mt) (hv : q.1 = 0 ∨ q.1 = 1) : mj_call yM_whens w (rq f n q.1 q.2) [.inr (.inl 223), .inl (l : Int)] = some (w, rq f n (rwc f n l q).1 (rwc f n l q).2, none) := by
  obtain ⟨m, h1, h2, h3⟩ := ho
  have h := R_whens hw f hn hl h1 h2 h3 q hv
  unfold rwc
  rw [h1, Int.toNat_natCast]
  exact h
/-- WAIT -/
def rwt (f : mj_F) (n l : Nat) (q : Int × Mt) : Int × Mt := rwc f n l ((rwc f n l q).1, rup n (rwc f n l q).2)
theorem R_stays (hw : wk sw w) (f : mj_F) {n l : Nat} (h1 : 1 ≤ n) (hn : n ≤ 61) (hl : l < 24) (ho : mkr f l) (q : Int × Mt) (hv : q.1 = 0 ∨ q.1 = 1) : mj_call yM_stays w (rq f n q.1 q.2) [.inr (.inl 223), .inl (l : Int)] = some (w, rq f n (rwt f n l q).1 (rwt f n l q).2, none) := by
  rw [c_M_stays hw, R_when hw f hn hl ho q hv, mj_bu_some, R_ups hw f h1 hn, mj_bu_some]
  have h := R_when hw f hn hl ho ((rwc f n l q).1, rup n (rwc f n l q).2) (rwc_01 f n l q hv)
  rw [h, mj_bu_some]
  rfl
/-- sets of an edge done -/
def rap (f : mj_F) (n e m : Nat) (A : Mt) : Mt := itr m (fun k A => rst n ((f 231 (4 * e + k)).toNat + 1) (am (f 232 (4 * e + k))) (am (mj_w (-(f 232 (4 * e + k))))) A) A
/-- STEP -/
def rsp (f : mj_F) (n e l : Nat) (q : Int × Mt) : Int × Mt := rwt f n l ((rwc f n (8 + e) q).1, rap f n e (f 230 e).toNat (rwc f n (8 + e) q).2)
theorem R_steps (hw : wk sw w) (f : mj_F) {n e l : Nat} (h1 : 1 ≤ n) (hn : n ≤ 61) (he : e < 16) (hl : l < 8) (hto : f 229 e = (l : Int)) (ho : mkr f l) (hoe : mkr f (8 + e)) (hos : mks f e) (q : Int × Mt) (hv : q.1 = 0 ∨ q.1 = 1) : mj_call yM_steps w (rq f n q.1 q.2) [.inr (.inl 223), .inl (e : Int)] = some (w, rq f n (rsp f n e l q).1 (rsp f n e l q).2, none) := by
  obtain ⟨m, g1, g2, g3⟩ := hos
  have e8 : mj_w (8 + (e : Int)) = ((8 + e : Nat) : Int) := by unfold mj_w; omega
  have e0 : mj_w (4 * (e : Int)) = ((4 * e + 0 : Nat) : Int) := by unfold mj_w; omega
  have e1 : mj_w (((4 * e + 0 : Nat) : Int) + (m : Int)) = ((4 * e + m : Nat) : Int) := by unfold mj_w; omega
  rw [c_M_steps hw, e8, R_when hw f hn (by omega) hoe q hv, mj_bu_some, e0]
  generalize hq2 : rwc f n (8 + e) q = q2
  have hv2 : q2.1 = 0 ∨ q2.1 = 1 := by rw [← hq2]; exact rwc_01 f n _ q hv
  have h := loop_eq (fun k A => mj_run yM_steps w (rq f n q2.1 A) 12 [.inr (.inl 223), .inl (e : Int), .inl ((4 * e + k : Nat) : Int)] []) (fun k A => rst n ((f 231 (4 * e + k)).toNat + 1) (am (f 232 (4 * e + k))) (am (mj_w (-(f 232 (4 * e + k))))) A) m (fun k A hk => by
    have hck := g3 k hk
    have e2 : mj_w (f 231 (4 * e + k) + 1) = (((f 231 (4 * e + k)).toNat + 1 : Nat) : Int) := by unfold mj_w; omega
    have g : (0 : Int) ≤ ((4 * e + k : Nat) : Int) ∧ ((4 * e + k : Nat) : Int) < ((64 : Nat) : Int) := ⟨by omega, by omega⟩
    rw [l_M_steps_12 hw, mj_gd_pos ⟨by omega, by omega⟩, Int.toNat_natCast, rq_o (by decide) (by decide), g1, e0, e1, if_neg (by omega), mj_gd_pos g, mj_gd_pos g, Int.toNat_natCast, rq_o (by decide) (by decide), rq_o (by decide) (by decide), e2, R_sets hw f (by omega) (by omega) hn, mj_bu_some, wS (by omega)]
    rfl) q2.2
  refine h.trans ?_
  rw [l_M_steps_12 hw, mj_gd_pos ⟨by omega, by omega⟩, Int.toNat_natCast, rq_o (by decide) (by decide), g1, e0, e1, if_pos (by omega), mj_gd_pos ⟨by omega, by omega⟩, rq_o (by decide) (by decide), hto]
  have t := R_stays hw f h1 hn (by omega : l < 24) ho (q2.1, rap f n e m q2.2) hv2
  have t2 : mj_call yM_stays w (rq f n q2.1 (itr m (fun k A => rst n ((f 231 (4 * e + k)).toNat + 1) (am (f 232 (4 * e + k))) (am (mj_w (-(f 232 (4 * e + k))))) A) q2.2)) [.inr (.inl 223), .inl (l : Int)] = _ := t
  rw [t2, mj_bu_some]
  unfold rsp
  rw [hq2, g1, Int.toNat_natCast]
end RR
