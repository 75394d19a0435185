/-! Halves held by a zone; what is told of a bound. -/
/-- the bound i j is broken by the halves in row r -/
def hhB (F : mj_F) (r i j : Nat) (b : Int) : Bool := decide (b < 268435456) && decide (b ≤ mj_w (F r i - F r j))
def hhM (F : mj_F) (r n : Nat) (A : Mt) : Bool := any n (fun i => any n (fun j => hhB F r i j (A i j)))
section RR
variable {sw : Bool} {w : mj_W}
theorem M_told (hw : wk sw w) (F : mj_F) (b x : Int) : mj_call yM_told w F [.inr (.inl 223), .inl b, .inl x] = some (w, F, some (.inl (if x = 0 then (if b < 1000000 then mj_shr b 1 else 1000) else (if b < 1000000 then mj_and b 1 else 0)))) := by
  rw [c_M_told hw]
  by_cases h : x = 0
  · rw [if_neg (fun q => q h), if_pos h, M_numberOf hw, mj_bi_some]
    by_cases h1 : b < 1000000
    · rw [if_pos h1, if_pos h1]
    · rw [if_neg h1, if_neg h1]
  · rw [if_pos h, if_neg h]
    by_cases h1 : b < 1000000
    · rw [if_pos h1, if_pos h1]
    · rw [if_neg h1, if_neg h1]
theorem M_low (hw : wk sw w) (F : mj_F) (b x : Int) : mj_call yM_low w F [.inl b, .inl x] = some (w, F, some (.inl (if x = 0 then mj_w (-(mj_shr b 1)) else mj_and b 1))) := by
  rw [c_M_low hw]
  by_cases h : x = 0
  · rw [if_neg (fun q => q h), if_pos h, M_numberOf hw, mj_bi_some]
  · rw [if_pos h, if_neg h]
theorem Z_holdsHalves (hw : wk sw w) {z : Nat} (hz : zn z = true) (F : mj_F) {n r s : Nat} (hr : w.1 r = (100, s)) (hs : n ≤ s) (hF : F z 1 = (n : Int)) (hn : n ≤ 6) : mj_call yZ_holdsHalves w F [.inr (.inl z), .inr (.inl r)] = some (w, F, some (.inl (if F z 2 = 0 ∧ hhM F r n (gm (z + 1) 6 F) = false then 1 else 0))) := by
  rw [c_Z_holdsHalves hw _ z r s hz hr]
  by_cases hv : F z 2 = 0
  · rw [if_pos hv]
    generalize hA : gm (z + 1) 6 F = A
    have hget : ∀ {a b : Nat}, a < n → b < n → mj_call yZ_cell w F [.inr (.inl z), .inl (a : Int), .inl (b : Int)] = some (w, F, some (.inl (A a b))) := by
      intro a b ha hb
      rw [← hA]
      exact Z_cellf hw hz F (by omega) (by omega)
    have hin : ∀ (i : Nat) (u : mj_V), i < n → (any n (fun j => hhB F r i j (A i j)) = true ∧ mj_run yZ_holdsHalves w F 11 [.inr (.inl z), .inr (.inl r), .inl (i : Int), u] [] = some (w, F, some (.inl 0))) ∨ (any n (fun j => hhB F r i j (A i j)) = false ∧ ∃ u' : mj_V, mj_run yZ_holdsHalves w F 11 [.inr (.inl z), .inr (.inl r), .inl (i : Int), u] [] = mj_run yZ_holdsHalves w F 11 [.inr (.inl z), .inr (.inl r), .inl ((i + 1 : Nat) : Int), u'] []) := by
      intro i u hi
      have e : mj_run yZ_holdsHalves w F 11 [.inr (.inl z), .inr (.inl r), .inl (i : Int), u] [] = mj_run yZ_holdsHalves w F 21 [.inr (.inl z), .inr (.inl r), .inl (i : Int), .inl ((0 : Nat) : Int)] [] := by
        rw [l_Z_holdsHalves_11 hw _ z r s _ _ hz hr, hF, if_neg (by omega)]
        rfl
      rw [e]
      have gi : (0 : Int) ≤ (i : Int) ∧ (i : Int) < ((s : Nat) : Int) := ⟨by omega, by omega⟩
      rcases loop_any (fun j (_ : Unit) => mj_run yZ_holdsHalves w F 21 [.inr (.inl z), .inr (.inl r), .inl (i : Int), .inl (j : Int)] []) (some (w, F, some (.inl 0))) (fun j => hhB F r i j (A i j)) n (fun j _ hj hg => by
          unfold hhB at hg
          rw [Bool.and_eq_true, decide_eq_true_eq, decide_eq_true_eq] at hg
          have gj : (0 : Int) ≤ (j : Int) ∧ (j : Int) < ((s : Nat) : Int) := ⟨by omega, by omega⟩
          rw [l_Z_holdsHalves_21 hw _ z r s _ _ hz hr, hF, if_neg (by omega), hget hi hj, mj_bi_some, if_neg (by omega), mj_gd_pos gi, mj_gd_pos gj, hget hi hj, mj_bi_some, Int.toNat_natCast, Int.toNat_natCast, if_neg (Int.not_lt.mpr hg.2)]) (fun j _ hj hg => by
          have gj : (0 : Int) ≤ (j : Int) ∧ (j : Int) < ((s : Nat) : Int) := ⟨by omega, by omega⟩
          rw [l_Z_holdsHalves_21 hw _ z r s _ _ hz hr, hF, if_neg (by omega), hget hi hj, mj_bi_some]
          refine ⟨(), ?_⟩
          by_cases hb : 268435456 ≤ A i j
          · rw [if_pos hb, wS (by omega)]
          · unfold hhB at hg
            have hlt : decide (A i j < 268435456) = true := decide_eq_true (by omega)
            rw [hlt, Bool.true_and, decide_eq_false_iff_not] at hg
            rw [if_neg hb, mj_gd_pos gi, mj_gd_pos gj, hget hi hj, mj_bi_some, Int.toNat_natCast, Int.toNat_natCast, if_pos (Int.not_le.mp hg), wS (by omega)]) () with ⟨a, b⟩ | ⟨a, _, b⟩
      · exact Or.inl ⟨a, b⟩
      · refine Or.inr ⟨a, .inl (n : Int), b.trans ?_⟩
        rw [l_Z_holdsHalves_21 hw _ z r s _ _ hz hr, hF, if_pos (by omega), wS (by omega)]
    rcases loop_any (fun i (u : mj_V) => mj_run yZ_holdsHalves w F 11 [.inr (.inl z), .inr (.inl r), .inl (i : Int), u] []) (some (w, F, some (.inl 0))) (fun i => any n (fun j => hhB F r i j (A i j))) n (fun i u hi hg => by
        rcases hin i u hi with ⟨_, b⟩ | ⟨a, _⟩
        · exact b
        · rw [hg] at a; cases a) (fun i u hi hg => by
        rcases hin i u hi with ⟨a, _⟩ | ⟨_, b⟩
        · rw [hg] at a; cases a
        · exact b) (.inr (.inr (.inr 0))) with ⟨a, b⟩ | ⟨a, u, b⟩
    · refine b.trans ?_
      rw [if_neg]
      intro h
      have h2 := h.2
      unfold hhM at h2
      rw [a] at h2
      cases h2
    · refine b.trans ?_
      rw [l_Z_holdsHalves_11 hw _ z r s _ _ hz hr, hF, if_pos (by omega), if_pos ⟨hv, a⟩]
  · rw [if_neg hv, if_neg (fun h => hv h.1)]
end RR
