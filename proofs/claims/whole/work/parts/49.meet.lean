/-! Two tables met, in the reference. -/
/-- the lesser of two bounds, cell by cell -/
def lsM (A B : Mt) : Mt := fun i j => if B i j < A i j then B i j else A i j
/-- two tables met, not yet closed: flag, square -/
def mtT (f : mj_F) (c s t : Nat) : Int × Mt := (if f 234 (100 + s) = 1 ∨ f 234 (100 + t) = 1 then 1 else 0, sqn (c + 1) (lsM (sqn (c + 1) (tsq f 234 s) (gm 252 62 f)) (tsq f 234 t)) (sqn (c + 1) (tsq f 234 s) (gm 252 62 f)))
section RR
variable {sw : Bool} {w : mj_W}
theorem M_other (hw : wk sw w) (F : mj_F) {t i j : Nat} (ht : t < 4) (hi : i < 5) (hj : j < 5) : mj_call yM_other w F [.inr (.inl 223), .inl (t : Int), .inl (i : Int), .inl (j : Int)] = some (w, F, some (.inl (tsq F 234 t i j))) := by
  rw [c_M_other hw, ix5 (by omega) hi hj, mj_gd_pos ⟨by omega, by omega⟩, Int.toNat_natCast]
  rfl
theorem R_meetsTable (hw : wk sw w) (f : mj_F) {c s t : Nat} (hc : f 223 2 = (c : Int)) (hc4 : c ≤ 4) (hs : s < 4) (ht : t < 4) : mj_call yM_meetsTable w f [.inr (.inl 223), .inl (s : Int), .inl (t : Int)] = some (w, rq f ((c + 1 : Nat) : Int) (rcl (c + 1) (mtT f c s t)).1 (rcl (c + 1) (mtT f c s t)).2, none) := by
  have e1 : mj_w (100 + (t : Int)) = ((100 + t : Nat) : Int) := by unfold mj_w; omega
  have h01 : (mtT f c s t).1 = 0 ∨ (mtT f c s t).1 = 1 := by
    unfold mtT
    dsimp only
    split
    · exact Or.inr rfl
    · exact Or.inl rfl
  have key : ∀ v : Int, v = (mtT f c s t).1 → mj_run yM_meetsTable w (rq f ((c + 1 : Nat) : Int) v (sqn (c + 1) (tsq f 234 s) (gm 252 62 f))) 34 [.inr (.inl 223), .inl (s : Int), .inl (t : Int), .inl 0, .inr (.inr (.inr 0))] [] = some (w, rq f ((c + 1 : Nat) : Int) (rcl (c + 1) (mtT f c s t)).1 (rcl (c + 1) (mtT f c s t)).2, none) := by
    intro v hv
    have hsq : (mtT f c s t).2 = sqn (c + 1) (lsM (sqn (c + 1) (tsq f 234 s) (gm 252 62 f)) (tsq f 234 t)) (sqn (c + 1) (tsq f 234 s) (gm 252 62 f)) := rfl
    generalize sqn (c + 1) (tsq f 234 s) (gm 252 62 f) = B at hsq
    obtain ⟨u, h⟩ := loop_ex (fun k (_ : Unit) (u : mj_V) => mj_run yM_meetsTable w (rq f ((c + 1 : Nat) : Int) v (sqf (c + 1) k 0 (lsM B (tsq f 234 t)) B)) 34 [.inr (.inl 223), .inl (s : Int), .inl (t : Int), .inl (k : Int), u] []) (fun _ a => a) (c + 1) (fun k _ u hk => by
      rw [l_M_meetsTable_34 hw, rq_n, if_neg (by omega)]
      have h := loop_st (fun l => mj_run yM_meetsTable w (rq f ((c + 1 : Nat) : Int) v (sqf (c + 1) k l (lsM B (tsq f 234 t)) B)) 45 [.inr (.inl 223), .inl (s : Int), .inl (t : Int), .inl (k : Int), .inl (l : Int)] []) (Nat.zero_le (c + 1)) (fun l _ hl => by
        have e2 : tsq (rq f ((c + 1 : Nat) : Int) v (sqf (c + 1) k l (lsM B (tsq f 234 t)) B)) 234 t k l = tsq f 234 t k l := rq_o (by decide) (by decide)
        rw [l_M_meetsTable_45 hw, rq_n, if_neg (by omega), M_other hw _ ht (by omega) (by omega), mj_bi_some, e2, R_tight hw f _ v _ _ (by omega) (by omega), mj_bu_some, wS (by omega)]
        have e3 : tg (sqf (c + 1) k l (lsM B (tsq f 234 t)) B) k l (tsq f 234 t k l) = sqf (c + 1) k (l + 1) (lsM B (tsq f 234 t)) B := by
          unfold tg
          rw [sqf_at]
          by_cases hb : tsq f 234 t k l < B k l
          · rw [if_pos hb, ← sqf_S]
            unfold lsM
            rw [if_pos hb]
          · rw [if_neg hb]
            exact sqf_K (by unfold lsM; rw [if_neg hb])
        rw [e3])
      refine ⟨.inl ((c + 1 : Nat) : Int), h.trans ?_⟩
      rw [l_M_meetsTable_45 hw, rq_n, if_pos (by omega), wS (by omega), sqf_R]) () (.inr (.inr (.inr 0)))
    rw [sqf_0] at h
    refine h.trans ?_
    rw [l_M_meetsTable_34 hw, rq_n, if_pos (by omega)]
    have t1 := R_closes hw f (by omega : c + 1 ≤ 61) (mtT f c s t) h01
    rw [← hv, hsq] at t1
    exact (congrArg (fun r => mj_bu r _) t1).trans (mj_bu_some ..)
  have hv0 : (if f 234 (100 + s) = 1 then (1 : Int) else 0) = 0 ∨ (if f 234 (100 + s) = 1 then (1 : Int) else 0) = 1 := by
    split
    · exact Or.inr rfl
    · exact Or.inl rfl
  rw [c_M_meetsTable hw, R_loads hw f hc hc4 hs, mj_bu_some, e1, mj_gd_pos ⟨by omega, by omega⟩, Int.toNat_natCast, rq_o (by decide) (by decide), rq_v, or_0 hv0, or_1 hv0, rq_pv, rq_pv]
  by_cases h1 : f 234 (100 + t) = 1
  · rw [if_neg (fun q => q h1), mj_gd_pos (Or.inr rfl)]
    exact key 1 (by unfold mtT; rw [if_pos (Or.inr h1)])
  · rw [if_pos h1, mj_gd_pos hv0]
    refine key _ ?_
    unfold mtT
    by_cases h2 : f 234 (100 + s) = 1
    · rw [if_pos h2, if_pos (Or.inl h2)]
    · rw [if_neg h2, if_neg (fun q => q.elim h2 h1)]
end RR
