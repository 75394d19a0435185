/-! The reference: whole, stretched; kept and stored. -/
def rwb (b : Int) : Int := if 1000000 ≤ b then b else if ¬ mj_and b 1 = 0 then b else mj_w (b - 1)
theorem sqf_at {n k l : Nat} {g A : Mt} : sqf n k l g A k l = A k l := by
  unfold sqf
  rw [if_neg (by omega)]
theorem sqf_K {n k l : Nat} {g A : Mt} (h : g k l = A k l) : sqf n k l g A = sqf n k (l + 1) g A := by
  rw [← sqf_S, h, ← sqf_at (n := n) (k := k) (l := l) (g := g) (A := A), um_same]
theorem rq_pn {f : mj_F} {n n' v : Int} {A : Mt} : mj_u (rq f n v A) 223 52 n' = rq f n' v A := by
  unfold rq
  rw [sm_u (by decide)]
  congr 1
  funext x q
  unfold mj_u
  by_cases h1 : x = 223 ∧ q = 52
  · rw [if_pos h1, if_neg (by omega), if_pos h1]
  · rw [if_neg h1, if_neg h1, if_neg h1]
/-- stretched by one time more, equal to time 0: rows and columns below k -/
def stF (n k : Nat) (A : Mt) : Mt := fun i j => if i = n ∧ j < k then A 0 j else if j = n ∧ i < k then A i 0 else A i j
section RR
variable {sw : Bool} {w : mj_W}
theorem R_wholes (hw : wk sw w) (f : mj_F) {n : Nat} (hn : n ≤ 61) (q : Int × Mt) (hv : q.1 = 0 ∨ q.1 = 1) : mj_call yM_wholes w (rq f n q.1 q.2) [.inr (.inl 223)] = some (w, rq f n (rcl n (q.1, sqn n (fun i j => rwb (q.2 i j)) q.2)).1 (rcl n (q.1, sqn n (fun i j => rwb (q.2 i j)) q.2)).2, none) := by
  rw [c_M_wholes hw]
  obtain ⟨u, h⟩ := loop_ex (fun k (_ : Unit) (u : mj_V) => mj_run yM_wholes w (rq f n q.1 (sqf n k 0 (fun i j => rwb (q.2 i j)) q.2)) 2 [.inr (.inl 223), .inl (k : Int), u] []) (fun _ a => a) n (fun k _ u hk => by
    rw [l_M_wholes_2 hw, rq_n, if_neg (by omega)]
    have h := loop_st (fun l => mj_run yM_wholes w (rq f n q.1 (sqf n k l (fun i j => rwb (q.2 i j)) q.2)) 12 [.inr (.inl 223), .inl (k : Int), .inl (l : Int)] []) (Nat.zero_le n) (fun l _ hl => by
      rw [l_M_wholes_12 hw, rq_n, if_neg (by omega)]
      simp only [R_get hw f _ q.1 _ (show k < 62 by omega) (show l < 62 by omega), mj_bi_some, R_put hw f _ q.1 _ _ (show k < 62 by omega) (show l < 62 by omega), mj_bu_some, sqf_at, wS (show l < 2147483647 by omega)]
      by_cases h1 : 1000000 ≤ q.2 k l
      · rw [if_pos h1, sqf_K (by unfold rwb; rw [if_pos h1])]
      · rw [if_neg h1]
        by_cases h2 : ¬ mj_and (q.2 k l) 1 = 0
        · rw [if_pos h2, sqf_K (by unfold rwb; rw [if_neg h1, if_pos h2])]
        · rw [if_neg h2, ← sqf_S]
          unfold rwb
          rw [if_neg h1, if_neg h2])
    refine ⟨.inl (n : Int), h.trans ?_⟩
    rw [l_M_wholes_12 hw, rq_n, if_pos (by omega), wS (by omega), sqf_R]) () (.inr (.inr (.inr 0)))
  rw [sqf_0] at h
  refine h.trans ?_
  rw [l_M_wholes_2 hw, rq_n, if_pos (by omega)]
  have := R_closes hw f hn (q.1, sqn n (fun i j => rwb (q.2 i j)) q.2) hv
  exact (congrArg (fun r => mj_bu r _) this).trans (mj_bu_some ..)
theorem R_stretches (hw : wk sw w) (f : mj_F) {n : Nat} (hn : n ≤ 60) (v : Int) (A : Mt) : mj_call yM_stretches w (rq f n v A) [.inr (.inl 223)] = some (w, rq f ((n + 1 : Nat) : Int) v (um (stF n n A) n n 1), none) := by
  rw [c_M_stretches hw, rq_n, rq_pn, wS (by omega)]
  have h := loop_st (fun k => mj_run yM_stretches w (rq f ((n + 1 : Nat) : Int) v (stF n k A)) 17 [.inr (.inl 223), .inl (n : Int), .inl (k : Int)] []) (Nat.zero_le n) (fun k _ hk => by
    rw [l_M_stretches_17 hw, if_neg (by omega), show (0 : Int) = ((0 : Nat) : Int) from rfl, R_get hw f _ v _ (by omega) (by omega), mj_bi_some, R_put hw f _ v _ _ (by omega) (by omega), mj_bu_some, R_get hw f _ v _ (by omega) (by omega), mj_bi_some, R_put hw f _ v _ _ (by omega) (by omega), mj_bu_some, wS (by omega)]
    congr 2
    have e1 : stF n k A 0 k = A 0 k := by
      unfold stF
      rw [if_neg (by omega), if_neg (by omega)]
    have e2 : um (stF n k A) n k (A 0 k) k 0 = A k 0 := by
      unfold um stF
      rw [if_neg (by omega), if_neg (by omega), if_neg (by omega)]
    rw [e1, e2]
    funext i j
    unfold um stF
    by_cases h1 : i = k ∧ j = n
    · rw [if_pos h1, if_neg (by omega), if_pos (by omega), h1.1]
    · rw [if_neg h1]
      by_cases h2 : i = n ∧ j = k
      · rw [if_pos h2, if_pos (by omega), h2.2]
      · rw [if_neg h2]
        exact ifc (by omega) rfl (ifc (by omega) rfl rfl))
  have e0 : stF n 0 A = A := by
    funext i j
    unfold stF
    rw [if_neg (by omega), if_neg (by omega)]
  simp only [e0] at h
  refine h.trans ?_
  rw [l_M_stretches_17 hw, if_pos (by omega), R_put hw f _ v _ _ (by omega) (by omega), mj_bu_some]
end RR
