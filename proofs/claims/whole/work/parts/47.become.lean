/-! A table becomes the square; bounds that go beyond. -/
theorem rq_at {f g : mj_F} {n v : Int} {A : Mt} {x q : Nat} (h : f x q = g x q) : rq f n v A x q = rq g n v A x q := by
  unfold rq sm mj_u
  rw [h]
theorem rq_cpn {f : mj_F} {n v : Int} {A : Mt} {d m : Nat} : cpn (rq f n v A) d m = rq (cpn f d m) n v A := by
  funext x q
  by_cases h : x = 235
  · subst h
    rw [rq_o (by decide) (by decide)]
    unfold cpn
    rw [rq_o (by decide) (by decide), rq_o (by decide) (by decide)]
  · have e : ∀ g : mj_F, cpn g d m x q = g x q := by
      intro g
      unfold cpn
      rw [if_neg (fun t => h t.1)]
    rw [e]
    exact rq_at (e f).symm
theorem rq_shf {f : mj_F} {n v : Int} {A : Mt} {k : Nat} : shf (rq f n v A) k = rq (shf f k) n v A := by
  funext x q
  by_cases h : x = 235
  · subst h
    rw [rq_o (by decide) (by decide)]
    unfold shf
    rw [rq_o (by decide) (by decide), rq_o (by decide) (by decide)]
  · have e : ∀ g : mj_F, shf g k x q = g x q := by
      intro g
      unfold shf
      rw [if_neg (fun t => h t.1)]
    rw [e]
    exact rq_at (e f).symm
theorem rq_uf {f : mj_F} {n v : Int} {A : Mt} {k : Nat} {b : Int} (h1 : k ≠ 52) (h2 : k ≠ 53) : mj_u (rq f n v A) 223 k b = rq (mj_u f 223 k b) n v A := by
  unfold rq
  rw [sm_u (by decide)]
  congr 1
  funext x q
  unfold mj_u
  by_cases h : x = 223 ∧ q = k
  · rw [if_pos h, if_neg (by omega), if_neg (by omega), if_pos h]
  · rw [if_neg h, if_neg h]
/-- now kept in the past: the memory behind keeps() -/
def kpF (f : mj_F) (d : Nat) : mj_F := if d = 16 then mj_u (cpn (mj_u (shf f 2000) 223 18 15) 15 125) 223 18 16 else mj_u (cpn f d 125) 223 18 ((d + 1 : Nat) : Int)
section RR
variable {sw : Bool} {w : mj_W}
theorem R_keeps (hw : wk sw w) (f : mj_F) (n v : Int) (A : Mt) {d : Nat} (hd : f 223 18 = (d : Int)) (h16 : d ≤ 16) : mj_call yM_keeps w (rq f n v A) [.inr (.inl 223)] = some (w, rq (kpF f d) n v A, none) := by
  have hd2 : rq f n v A 223 18 = (d : Int) := (rq_f (by decide) (by decide)).trans hd
  unfold kpF
  by_cases h : d = 16
  · rw [if_pos h, M_keeps_16 hw _ (by rw [hd2, h]; rfl), rq_shf, rq_uf (by decide) (by decide), rq_cpn, rq_uf (by decide) (by decide)]
  · rw [if_neg h, M_keeps hw _ hd2 (by omega), rq_cpn, rq_uf (by decide) (by decide)]
theorem R_becomesTable (hw : wk sw w) (f : mj_F) {n t d : Nat} (hn : n ≤ 5) (ht : t < 4) (hd : f 223 18 = (d : Int)) (h16 : d ≤ 16) (v : Int) (A : Mt) : mj_call yM_becomesTable w (rq f n v A) [.inr (.inl 223), .inl (t : Int)] = if v = 0 ∧ farM n A = true then some (w, rq f n v A, some (.inl (-2))) else some (w, rq (mj_u (stq (kpF f d) t n n 0 A) 234 (100 + t) (if v = 0 then 0 else 1)) n v A, some (.inl (if v = 0 then 1 else 0))) := by
  rw [c_M_becomesTable hw, R_isFar hw f (by omega), mj_bi_some]
  by_cases h : v = 0 ∧ farM n A = true
  · rw [if_pos h, if_neg (by decide), if_pos h]
  · rw [if_neg h, if_pos rfl, if_neg h, R_keeps hw f _ _ _ hd h16, mj_bu_some, R_stores hw _ hn ht, mj_bu_some, rq_v]
    by_cases h0 : v = 0
    · rw [if_pos h0, if_pos h0, if_pos h0]
    · rw [if_neg h0, if_neg h0, if_neg h0]
/-- a bound goes beyond x -/
def byB (x b : Int) : Bool := decide (b < 268435456) && decide (x < (if 0 ≤ mj_shr b 1 then mj_shr b 1 else mj_w (0 - mj_shr b 1)))
def byM (n : Nat) (x : Int) (A : Mt) : Bool := any n (fun i => any n (fun j => byB x (A i j)))
theorem Z_goesBeyond (hw : wk sw w) {z : Nat} (hz : zn z = true) (F : mj_F) {n : Nat} (hF : F z 1 = (n : Int)) (hn : n ≤ 6) (x : Int) : mj_call yZ_goesBeyond w F [.inr (.inl z), .inl x] = some (w, F, some (.inl (if F z 2 = 0 ∧ byM n x (gm (z + 1) 6 F) = true then 1 else 0))) := by
  rw [c_Z_goesBeyond hw _ z _ hz]
  by_cases hv : F z 2 = 0
  · rw [if_pos hv]
    generalize hA : gm (z + 1) 6 F = A
    have hget : ∀ {a b : Nat}, a < n → b < n → mj_call yZ_cell w F [.inr (.inl z), .inl (a : Int), .inl (b : Int)] = some (w, F, some (.inl (A a b))) := by
      intro a b ha hb
      rw [← hA]
      exact Z_cellf hw hz F (by omega) (by omega)
    have hin : ∀ (i : Nat) (u : mj_V × mj_V), i < n → (any n (fun j => byB x (A i j)) = true ∧ mj_run yZ_goesBeyond w F 11 [.inr (.inl z), .inl x, .inl (i : Int), u.1, u.2] [] = some (w, F, some (.inl 1))) ∨ (any n (fun j => byB x (A i j)) = false ∧ ∃ u' : mj_V × mj_V, mj_run yZ_goesBeyond w F 11 [.inr (.inl z), .inl x, .inl (i : Int), u.1, u.2] [] = mj_run yZ_goesBeyond w F 11 [.inr (.inl z), .inl x, .inl ((i + 1 : Nat) : Int), u'.1, u'.2] []) := by
      intro i u hi
      have e : mj_run yZ_goesBeyond w F 11 [.inr (.inl z), .inl x, .inl (i : Int), u.1, u.2] [] = mj_run yZ_goesBeyond w F 21 [.inr (.inl z), .inl x, .inl (i : Int), .inl ((0 : Nat) : Int), u.2] [] := by
        rw [l_Z_goesBeyond_11 hw _ z _ _ _ _ hz, hF, if_neg (by omega)]
        rfl
      rw [e]
      rcases loop_any (fun j (u : mj_V) => mj_run yZ_goesBeyond w F 21 [.inr (.inl z), .inl x, .inl (i : Int), .inl (j : Int), u] []) (some (w, F, some (.inl 1))) (fun j => byB x (A i j)) n (fun j _ hj hg => by
          unfold byB at hg
          rw [Bool.and_eq_true, decide_eq_true_eq, decide_eq_true_eq] at hg
          rw [l_Z_goesBeyond_21 hw _ z _ _ _ _ hz, hF, if_neg (by omega), hget hi hj, mj_bi_some, if_neg (by omega), c_X_numberOf hw, mj_bi_some, if_neg (Int.not_le.mpr hg.2)]) (fun j _ hj hg => by
          rw [l_Z_goesBeyond_21 hw _ z _ _ _ _ hz, hF, if_neg (by omega), hget hi hj, mj_bi_some]
          refine ⟨.inl (A i j), ?_⟩
          by_cases hb : 268435456 ≤ A i j
          · rw [if_pos hb, wS (by omega)]
          · unfold byB at hg
            have hlt : decide (A i j < 268435456) = true := decide_eq_true (by omega)
            rw [hlt, Bool.true_and, decide_eq_false_iff_not] at hg
            rw [if_neg hb, c_X_numberOf hw, mj_bi_some, if_pos (Int.not_lt.mp hg), wS (by omega)]) u.2 with ⟨a, b⟩ | ⟨a, u', b⟩
      · exact Or.inl ⟨a, b⟩
      · refine Or.inr ⟨a, (.inl (n : Int), u'), b.trans ?_⟩
        rw [l_Z_goesBeyond_21 hw _ z _ _ _ _ hz, hF, if_pos (by omega), wS (by omega)]
    rcases loop_any (fun i (u : mj_V × mj_V) => mj_run yZ_goesBeyond w F 11 [.inr (.inl z), .inl x, .inl (i : Int), u.1, u.2] []) (some (w, F, some (.inl 1))) (fun i => any n (fun j => byB x (A i j))) n (fun i u hi hg => by
        rcases hin i u hi with ⟨_, b⟩ | ⟨a, _⟩
        · exact b
        · rw [hg] at a; cases a) (fun i u hi hg => by
        rcases hin i u hi with ⟨a, _⟩ | ⟨_, b⟩
        · rw [hg] at a; cases a
        · exact b) (.inr (.inr (.inr 0)), .inr (.inr (.inr 0))) with ⟨a, b⟩ | ⟨a, u, b⟩
    · refine b.trans ?_
      rw [if_pos ⟨hv, a⟩]
    · refine b.trans ?_
      rw [l_Z_goesBeyond_11 hw _ z _ _ _ _ hz, hF, if_pos (by omega), if_neg]
      intro h
      have h2 := h.2
      unfold byM at h2
      rw [a] at h2
      cases h2
  · rw [if_neg hv, if_neg (fun h => hv h.1)]
end RR
