/-! The class's zones: cell, put, sumOf, tighten, closeCells. -/
theorem ixw {k i S : Nat} (hS : S ≤ 62) (hk : k < S) (hi : i < S) : mj_w (mj_w ((k : Int) * (S : Int)) + (i : Int)) = ((S * k + i : Nat) : Int) ∧ S * k + i < S * S := by
  have h1 := ix_lt hk hi
  have h2 : S * S ≤ 62 * 62 := Nat.mul_le_mul hS hS
  have h3 : (k : Int) * (S : Int) = ((S * k : Nat) : Int) := by rw [Int.natCast_mul, Int.mul_comm]
  rw [h3]
  refine ⟨?_, h1⟩
  have h4 : S * k + i < 3844 := by omega
  generalize S * k = m at h4 ⊢
  unfold mj_w
  omega
theorem ixw6 {k i : Nat} (hk : k < 6) (hi : i < 6) : mj_w (mj_w ((k : Int) * 6) + (i : Int)) = ((6 * k + i : Nat) : Int) := (ixw (S := 6) (by decide) hk hi).1
/-- a zone in the memory: how many clocks, whether it is empty, its square -/
def zs (z : Nat) (f : mj_F) (n v : Int) (C : Mt) : mj_F := sm (z + 1) 6 (mj_u (mj_u f z 1 n) z 2 v) C
theorem zs_n {z : Nat} {f : mj_F} {n v : Int} {C : Mt} : zs z f n v C z 1 = n := by
  unfold zs
  rw [sm_o (by omega), u_o (Or.inr (by decide)), u_self]
theorem zs_v {z : Nat} {f : mj_F} {n v : Int} {C : Mt} : zs z f n v C z 2 = v := by
  unfold zs
  rw [sm_o (by omega), u_self]
theorem zs_c {z : Nat} {f : mj_F} {n v : Int} {C : Mt} {i j : Nat} (hi : i < 6) (hj : j < 6) : zs z f n v C (z + 1) (6 * i + j) = C i j := sm_get hi hj
theorem zs_o {z : Nat} {f : mj_F} {n v : Int} {C : Mt} {a q : Nat} (h1 : a ≠ z) (h2 : a ≠ z + 1) : zs z f n v C a q = f a q := by
  unfold zs
  rw [sm_o h2, u_o (Or.inl h1), u_o (Or.inl h1)]
theorem zs_put {z : Nat} {f : mj_F} {n v : Int} {C : Mt} {i j : Nat} {b : Int} (hi : i < 6) (hj : j < 6) : mj_u (zs z f n v C) (z + 1) (6 * i + j) b = zs z f n v (um C i j b) := sm_put hi hj
theorem zs_pv {z : Nat} {f : mj_F} {n v v' : Int} {C : Mt} : mj_u (zs z f n v C) z 2 v' = zs z f n v' C := by
  unfold zs
  rw [sm_u (by omega), mu_u]
theorem zs_self {z : Nat} {f : mj_F} : zs z f (f z 1) (f z 2) (gm (z + 1) 6 f) = f := by
  unfold zs
  rw [mu_same (rfl : f z 1 = f z 1), mu_same (rfl : f z 2 = f z 2), sm_gm]
section ZZ
variable {sw : Bool} {w : mj_W}
/-- the class's sum of two bounds -/
def cs (a b : Int) : Int := mj_w (mj_w (a + b) - mj_and (mj_or a b) 1)
def cp (a b : Int) : Int := if 268435456 ≤ a then 268435456 else if b < 268435456 then cs a b else 268435456
theorem X_sumOf (hw : wk sw w) (F : mj_F) (a b : Int) : mj_call yX_sumOf w F [.inl a, .inl b] = some (w, F, some (.inl (cp a b))) := by
  rw [c_X_sumOf hw]
  unfold cp
  split
  · rfl
  · split
    · rfl
    · rfl
theorem Z_cell (hw : wk sw w) {z : Nat} (hz : zn z = true) (f : mj_F) (n v : Int) (C : Mt) {i j : Nat} (hi : i < 6) (hj : j < 6) : mj_call yZ_cell w (zs z f n v C) [.inr (.inl z), .inl (i : Int), .inl (j : Int)] = some (w, zs z f n v C, some (.inl (C i j))) := by
  rw [c_Z_cell hw _ z _ _ hz, ixw6 hi hj, mj_gd_pos ⟨by omega, by omega⟩, Int.toNat_natCast, zs_c hi hj]
theorem Z_put (hw : wk sw w) {z : Nat} (hz : zn z = true) (f : mj_F) (n v : Int) (C : Mt) {i j : Nat} (b : Int) (hi : i < 6) (hj : j < 6) : mj_call yZ_put w (zs z f n v C) [.inr (.inl z), .inl (i : Int), .inl (j : Int), .inl b] = some (w, zs z f n v (um C i j b), none) := by
  rw [c_Z_put hw _ z _ _ _ hz, ixw6 hi hj, mj_gd_pos ⟨by omega, by omega⟩, Int.toNat_natCast, zs_put hi hj]
def mn (a b : Int) : Int := if b < a then b else a
def ztl (n j k : Nat) (hd : Int) (C : Mt) : Mt := itr n (fun l C => um C k l (mn (C k l) (cp hd (C j l)))) C
def ztk (n i j : Nat) (b : Int) (C : Mt) : Mt := itr n (fun k C => if 268435456 ≤ cp (C k i) b then C else ztl n j k (cp (C k i) b) C) C
/-- tighten: the new flag, the new square -/
def zt (n i j : Nat) (b v : Int) (C : Mt) : Int × Mt := if ¬ v = 0 then (v, C) else if b < C i j then (if 1 ≤ cp b (C j i) then (v, ztk n i j b C) else (1, C)) else (v, C)
theorem Z_tighten_l (hw : wk sw w) {z : Nat} (hz : zn z = true) (f : mj_F) {n : Nat} (hn : n ≤ 6) (v : Int) (C : Mt) {i j k : Nat} (b hd : Int) (hi : i < 6) (hj : j < 6) (hk : k < 6) (hh : ¬ 268435456 ≤ hd) : mj_run yZ_tighten w (zs z f n v C) 66 [.inr (.inl z), .inl (i : Int), .inl (j : Int), .inl b, .inl (k : Int), .inl hd, .inl 0] [] = mj_run yZ_tighten w (zs z f n v (ztl n j k hd C)) 41 [.inr (.inl z), .inl (i : Int), .inl (j : Int), .inl b, .inl ((k + 1 : Nat) : Int), .inl hd, .inl (n : Int)] [] := by
  have h := loop_eq (fun l C => mj_run yZ_tighten w (zs z f n v C) 66 [.inr (.inl z), .inl (i : Int), .inl (j : Int), .inl b, .inl (k : Int), .inl hd, .inl (l : Int)] []) (fun l C => um C k l (mn (C k l) (cp hd (C j l)))) n (fun l C hl => by
    rw [l_Z_tighten_66 hw _ z _ _ _ _ _ _ hz, zs_n, if_neg (by omega), if_neg hh, Z_cell hw hz f n v C hk (by omega), mj_bi_some, Z_cell hw hz f n v C hj (by omega), mj_bi_some, X_sumOf hw, mj_bi_some, Z_put hw hz f n v C _ hk (by omega), mj_bu_some, wS (by omega)]
    rfl) C
  refine h.trans ?_
  rw [l_Z_tighten_66 hw _ z _ _ _ _ _ _ hz, zs_n, if_pos (by omega), wS (by omega)]
  rfl
theorem Z_tighten (hw : wk sw w) {z : Nat} (hz : zn z = true) (f : mj_F) {n : Nat} (hn : n ≤ 6) (v : Int) (C : Mt) {i j : Nat} (b : Int) (hi : i < 6) (hj : j < 6) : mj_call yZ_tighten w (zs z f n v C) [.inr (.inl z), .inl (i : Int), .inl (j : Int), .inl b] = some (w, zs z f n (zt n i j b v C).1 (zt n i j b v C).2, none) := by
  rw [c_Z_tighten hw _ z _ _ _ hz, zs_v]
  unfold zt
  by_cases hv : v = 0
  · rw [if_neg (fun q => q hv), if_neg (fun q => q hv), Z_cell hw hz f n v C hi hj, mj_bi_some]
    by_cases hb : b < C i j
    · rw [if_pos hb, if_pos hb, Z_cell hw hz f n v C hj hi, mj_bi_some, X_sumOf hw, mj_bi_some]
      by_cases h1 : 1 ≤ cp b (C j i)
      · rw [if_pos h1, if_pos h1]
        obtain ⟨u, h⟩ := loop_ex (fun k C (u : mj_V × mj_V) => mj_run yZ_tighten w (zs z f n v C) 41 [.inr (.inl z), .inl (i : Int), .inl (j : Int), .inl b, .inl (k : Int), u.1, u.2] []) (fun k C => if 268435456 ≤ cp (C k i) b then C else ztl n j k (cp (C k i) b) C) n (fun k C u hk => by
          rw [l_Z_tighten_41 hw _ z _ _ _ _ _ _ hz, zs_n, if_neg (by omega), Z_cell hw hz f n v C (by omega) hi, mj_bi_some, X_sumOf hw, mj_bi_some]
          by_cases hd : 268435456 ≤ cp (C k i) b
          · rw [if_pos hd]
            by_cases h0 : (n : Int) ≤ 0
            · exact absurd h0 (by omega)
            · exact ⟨(.inl (cp (C k i) b), .inl 0), by rw [l_Z_tighten_66 hw _ z _ _ _ _ _ _ hz, zs_n, if_neg h0, if_pos hd, wS (by omega)]⟩
          · rw [if_neg hd]
            exact ⟨(.inl (cp (C k i) b), .inl (n : Int)), Z_tighten_l hw hz f hn v C (k := k) b _ hi hj (by omega) hd⟩) C (.inr (.inr (.inr 0)), .inr (.inr (.inr 0)))
        refine h.trans ?_
        rw [l_Z_tighten_41 hw _ z _ _ _ _ _ _ hz, zs_n, if_pos (by omega)]
        rfl
      · rw [if_neg h1, if_neg h1, zs_pv]
    · rw [if_neg hb, if_neg hb]
  · rw [if_pos hv, if_pos hv]
/-- the class's closing of a square of any side: by pivots, until a diagonal is below "at most 0" -/
def clj (n k i : Nat) (hd : Int) (C : Mt) : Mt := itr n (fun j C => if C i j ≤ cp hd (C k j) then C else um C i j (cp hd (C k j))) C
def cli (n k : Nat) (C : Mt) : Mt := itr n (fun i C => if 268435456 ≤ C i k then C else clj n k i (C i k) C) C
/-- d pivots from k on: (whether all are through, the square) -/
def clr (n : Nat) : Nat → Nat → Mt → Int × Mt
  | 0, _, C => (1, C)
  | d + 1, k, C => if 1 ≤ C k k then clr n d (k + 1) (cli n k C) else (0, C)
section CC
variable {S a : Nat} {f : mj_F} {n : Nat}
theorem CC_j (hw : wk sw w) (hS : S ≤ 62) (ha : w.1 a = (100, S * S)) (hn : n ≤ S) (C : Mt) {k i : Nat} (hd : Int) (hk : k < S) (hi : i < S) (hh : ¬ 268435456 ≤ hd) (u : mj_V) : ∃ u', mj_run yX_closeCells w (sm a S f C) 42 [.inr (.inl a), .inl (S : Int), .inl (n : Int), .inl (k : Int), .inl (i : Int), .inl hd, .inl 0, u] [] = mj_run yX_closeCells w (sm a S f (clj n k i hd C)) 23 [.inr (.inl a), .inl (S : Int), .inl (n : Int), .inl (k : Int), .inl ((i + 1 : Nat) : Int), .inl hd, .inl (n : Int), u'] [] := by
  obtain ⟨u', h⟩ := loop_ex (fun j C (u : mj_V) => mj_run yX_closeCells w (sm a S f C) 42 [.inr (.inl a), .inl (S : Int), .inl (n : Int), .inl (k : Int), .inl (i : Int), .inl hd, .inl (j : Int), u] []) (fun j C => if C i j ≤ cp hd (C k j) then C else um C i j (cp hd (C k j))) n (fun j C u hj => by
    have e1 := ixw hS hk (by omega : j < S)
    have e2 := ixw hS hi (by omega : j < S)
    rw [l_X_closeCells_42 hw _ a _ _ _ _ _ _ _ _ ha, if_neg (by omega), if_neg hh, e1.1, mj_gd_pos ⟨by omega, by omega⟩, Int.toNat_natCast, sm_get hk (by omega), X_sumOf hw, mj_bi_some, e2.1, mj_gd_pos ⟨by omega, by omega⟩, Int.toNat_natCast, sm_get hi (by omega), mj_gd_pos ⟨by omega, by omega⟩]
    refine ⟨.inl (cp hd (C k j)), ?_⟩
    by_cases hc : C i j ≤ cp hd (C k j)
    · rw [if_pos hc, if_pos hc, wS (by omega)]
    · rw [if_neg hc, if_neg hc, wS (by omega), sm_put hi (by omega)]) C u
  refine ⟨u', h.trans ?_⟩
  rw [l_X_closeCells_42 hw _ a _ _ _ _ _ _ _ _ ha, if_pos (by omega), wS (by omega)]
  rfl
theorem CC_i (hw : wk sw w) (hS : S ≤ 62) (ha : w.1 a = (100, S * S)) (hn : n ≤ S) (C : Mt) {k : Nat} (hk : k < S) (u : mj_V × mj_V × mj_V) : ∃ u' : mj_V × mj_V × mj_V, mj_run yX_closeCells w (sm a S f C) 23 [.inr (.inl a), .inl (S : Int), .inl (n : Int), .inl (k : Int), .inl 0, u.1, u.2.1, u.2.2] [] = mj_run yX_closeCells w (sm a S f (cli n k C)) 2 [.inr (.inl a), .inl (S : Int), .inl (n : Int), .inl ((k + 1 : Nat) : Int), .inl (n : Int), u'.1, u'.2.1, u'.2.2] [] := by
  obtain ⟨u', h⟩ := loop_ex (fun i C (u : mj_V × mj_V × mj_V) => mj_run yX_closeCells w (sm a S f C) 23 [.inr (.inl a), .inl (S : Int), .inl (n : Int), .inl (k : Int), .inl (i : Int), u.1, u.2.1, u.2.2] []) (fun i C => if 268435456 ≤ C i k then C else clj n k i (C i k) C) n (fun i C u hi => by
    have e1 := ixw hS (by omega : i < S) hk
    rw [l_X_closeCells_23 hw _ a _ _ _ _ _ _ _ _ ha, if_neg (by omega), e1.1, mj_gd_pos ⟨by omega, by omega⟩, Int.toNat_natCast, sm_get (by omega) hk]
    by_cases hd : 268435456 ≤ C i k
    · rw [if_pos hd]
      by_cases h0 : (n : Int) ≤ 0
      · exact absurd h0 (by omega)
      · exact ⟨(.inl (C i k), .inl 0, u.2.2), by rw [l_X_closeCells_42 hw _ a _ _ _ _ _ _ _ _ ha, if_neg h0, if_pos hd, wS (by omega)]⟩
    · rw [if_neg hd]
      obtain ⟨u', h'⟩ := CC_j hw hS ha hn C (C i k) hk (by omega : i < S) hd u.2.2
      exact ⟨(.inl (C i k), .inl (n : Int), u'), h'⟩) C u
  refine ⟨u', h.trans ?_⟩
  rw [l_X_closeCells_23 hw _ a _ _ _ _ _ _ _ _ ha, if_pos (by omega), wS (by omega)]
  rfl
theorem CC_k (hw : wk sw w) (hS : S ≤ 62) (ha : w.1 a = (100, S * S)) (hn : n ≤ S) : ∀ (d k : Nat) (C : Mt) (u : mj_V × mj_V × mj_V × mj_V), k + d = n → mj_run yX_closeCells w (sm a S f C) 2 [.inr (.inl a), .inl (S : Int), .inl (n : Int), .inl (k : Int), u.1, u.2.1, u.2.2.1, u.2.2.2] [] = some (w, sm a S f (clr n d k C).2, some (.inl (clr n d k C).1)) := by
  intro d
  induction d with
  | zero =>
    intro k C u hk
    rw [l_X_closeCells_2 hw _ a _ _ _ _ _ _ _ _ ha, if_pos (by omega)]
    rfl
  | succ d ih =>
    intro k C u hk
    have e1 := ixw hS (by omega : k < S) (by omega : k < S)
    rw [l_X_closeCells_2 hw _ a _ _ _ _ _ _ _ _ ha, if_neg (by omega), e1.1, mj_gd_pos ⟨by omega, by omega⟩, Int.toNat_natCast, sm_get (by omega) (by omega)]
    unfold clr
    by_cases hc : 1 ≤ C k k
    · rw [if_pos hc, if_pos hc]
      obtain ⟨u', h⟩ := CC_i (f := f) hw hS ha hn C (by omega : k < S) (u.2.1, u.2.2.1, u.2.2.2)
      refine h.trans ?_
      exact ih (k + 1) (cli n k C) (.inl (n : Int), u'.1, u'.2.1, u'.2.2) (by omega)
    · rw [if_neg hc, if_neg hc]
theorem X_closeCells (hw : wk sw w) (hS : S ≤ 62) (ha : w.1 a = (100, S * S)) (hn : n ≤ S) (C : Mt) : mj_call yX_closeCells w (sm a S f C) [.inr (.inl a), .inl (S : Int), .inl (n : Int)] = some (w, sm a S f (clr n n 0 C).2, some (.inl (clr n n 0 C).1)) := by
  rw [c_X_closeCells hw _ a _ _ _ ha]
  exact CC_k hw hS ha hn n 0 C (.inr (.inr (.inr 0)), .inr (.inr (.inr 0)), .inr (.inr (.inr 0)), .inr (.inr (.inr 0))) (by omega)
end CC
end ZZ
