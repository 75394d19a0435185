/-! Zones: all times, nothing, joined, met, covered, whole, far, points, pairs. -/
section ZZ
variable {sw : Bool} {w : mj_W}
theorem Z_cellf (hw : wk sw w) {z : Nat} (hz : zn z = true) (F : mj_F) {i j : Nat} (hi : i < 6) (hj : j < 6) : mj_call yZ_cell w F [.inr (.inl z), .inl (i : Int), .inl (j : Int)] = some (w, F, some (.inl (gm (z + 1) 6 F i j))) := by
  rw [c_Z_cell hw _ z _ _ hz, ixw6 hi hj, mj_gd_pos ⟨by omega, by omega⟩, Int.toNat_natCast]
  rfl
def zlk (n k : Nat) : Mt := fun i j => if 1 ≤ i ∧ i < k ∧ j < n ∧ i ≠ j then 268435456 else 1
theorem Z_layAll (hw : wk sw w) {z : Nat} (hz : zn z = true) (f : mj_F) {n : Nat} (h1 : 1 ≤ n) (hn : n ≤ 6) : mj_call yZ_layAll w f [.inr (.inl z), .inl (n : Int)] = some (w, zs z f n 0 (zlk n n), none) := by
  rw [c_Z_layAll hw _ z _ hz, Z_layZero hw hz, mj_bu_some]
  have h := loop_st (fun c => mj_run yZ_layAll w (zs z f n 0 (zlk n c)) 7 [.inr (.inl z), .inl (n : Int), .inl (c : Int)] []) h1 (fun c hc1 hc => by
    rw [l_Z_layAll_7 hw _ z _ _ hz, zs_n, if_neg (by omega), Z_release hw hz f hc1 (by omega) hn, mj_bu_some, wS (by omega)]
    congr 2
    funext x y
    unfold zfr zlk
    by_cases hA : x = c ∧ y < n ∧ y ≠ c
    · rw [if_pos hA, if_pos (by omega)]
    · rw [if_neg hA]
      by_cases hB : y = c ∧ x < n ∧ x ≠ c
      · rw [if_pos hB]
        exact ifc (by omega) rfl rfl
      · rw [if_neg hB]
        exact ifc (by omega) rfl rfl)
  have h0 : zlk n 1 = fun _ _ => 1 := by
    funext i j
    unfold zlk
    rw [if_neg (by omega)]
  rw [h0] at h
  refine h.trans ?_
  rw [l_Z_layAll_7 hw _ z _ _ hz, zs_n, if_pos (by omega)]
theorem Z_layNothing (hw : wk sw w) {z : Nat} (hz : zn z = true) (f : mj_F) (n : Int) : mj_call yZ_layNothing w f [.inr (.inl z), .inl n] = some (w, zs z f n 1 (fun _ _ => 1), none) := by
  rw [c_Z_layNothing hw _ z _ hz, Z_layZero hw hz, mj_bu_some, zs_pv]
theorem zs_y {z y : Nat} {f : mj_F} {n v : Int} {C : Mt} {q : Nat} (hz : zn z = true) (hy : zn y = true) (hne : z ≠ y) : zs z f n v C y q = f y q ∧ zs z f n v C (y + 1) q = f (y + 1) q := by
  have h := zz_ne hz hy hne
  exact ⟨zs_o (by omega) (by omega), zs_o (by omega) (by omega)⟩
theorem zs_zs {z : Nat} {f : mj_F} {n v a b : Int} {C D : Mt} : zs z (zs z f n v C) a b D = zs z f a b D := by
  funext x q
  unfold zs sm mj_u
  by_cases h1 : x = z + 1 ∧ q < 6 * 6
  · simp only [if_pos h1]
  · by_cases h2 : x = z ∧ q = 2
    · simp only [if_neg h1, if_pos h2]
    · by_cases h3 : x = z ∧ q = 1
      · simp only [if_neg h1, if_neg h2, if_pos h3]
      · simp only [if_neg h1, if_neg h2, if_neg h3]
def mxM (C D : Mt) : Mt := fun i j => if C i j < D i j then D i j else C i j
def mnM (C D : Mt) : Mt := fun i j => if D i j < C i j then D i j else C i j
theorem gm_q {a : Nat} {f : mj_F} {q : Nat} : f a q = gm a 6 f (q / 6) (q % 6) := by
  unfold gm
  rw [Nat.div_add_mod]
theorem Z_widenTo (hw : wk sw w) {z y : Nat} (hz : zn z = true) (hy : zn y = true) (hne : z ≠ y) (f : mj_F) (n v : Int) (C : Mt) (hvy : f y 2 = 0 ∨ f y 2 = 1) : mj_call yZ_widenTo w (zs z f n v C) [.inr (.inl z), .inr (.inl y)] = some (w, (if f y 2 = 0 then (if v = 0 then zs z f n v (zm 36 (mxM C (gm (y + 1) 6 f)) C) else zs z f (f y 1) (f y 2) (gm (y + 1) 6 f)) else zs z f n v C), none) := by
  have hy1 := fun q => (zs_y (f := f) (n := n) (v := v) (C := C) (q := q) hz hy hne).1
  rw [c_Z_widenTo hw _ z y hz hy, hy1, zs_v]
  by_cases h0 : f y 2 = 0
  · rw [if_pos h0, if_pos h0]
    by_cases hv : v = 0
    · rw [if_pos hv, if_pos hv]
      have h := loop_st (fun k => mj_run yZ_widenTo w (zs z f n v (zm k (mxM C (gm (y + 1) 6 f)) C)) 23 [.inr (.inl z), .inr (.inl y), .inl (k : Int)] []) (Nat.zero_le 36) (fun k _ hk => by
        have g : (0 : Int) ≤ (k : Int) ∧ (k : Int) < ((36 : Nat) : Int) := ⟨by omega, by omega⟩
        rw [l_Z_widenTo_23 hw _ z y _ hz hy, if_neg (by omega), mj_gd_pos g, mj_gd_pos g, mj_gd_pos g, Int.toNat_natCast, zs_cq hk, zm_at (Nat.le_refl k), (zs_y hz hy hne).2, gm_q (a := y + 1) (f := f) (q := k), zs_pq hk, wS (by omega)]
        have := zm_S k (mxM C (gm (y + 1) 6 f)) C
        rw [← this]
        rfl)
      rw [zm_0] at h
      refine h.trans ?_
      rw [l_Z_widenTo_23 hw _ z y _ hz hy, if_pos (by omega)]
    · rw [if_neg hv, if_neg hv, Z_become hw hz hy hne _ (by rw [hy1]; exact hvy), mj_bu_some, hy1, hy1]
      have hg : gm (y + 1) 6 (zs z f n v C) = gm (y + 1) 6 f := by
        funext i j
        unfold gm
        rw [(zs_y hz hy hne).2]
      rw [hg]
      rw [zs_zs]
  · rw [if_neg h0, if_neg h0]
theorem Z_narrowTo (hw : wk sw w) {z y : Nat} (hz : zn z = true) (hy : zn y = true) (hne : z ≠ y) (f : mj_F) {n : Nat} (hn : n ≤ 6) (v : Int) (C : Mt) : mj_call yZ_narrowTo w (zs z f n v C) [.inr (.inl z), .inr (.inl y)] = some (w, (if v = 0 ∧ f y 2 = 0 then zs z f n (zcl n v (zm 36 (mnM C (gm (y + 1) 6 f)) C)).1 (zcl n v (zm 36 (mnM C (gm (y + 1) 6 f)) C)).2 else zs z f n 1 C), none) := by
  have hy1 := fun q => (zs_y (f := f) (n := (n : Int)) (v := v) (C := C) (q := q) hz hy hne).1
  rw [c_Z_narrowTo hw _ z y hz hy, hy1, zs_v, zs_pv]
  by_cases hv : v = 0
  · rw [if_neg (fun q => q hv)]
    by_cases h0 : f y 2 = 0
    · rw [if_pos h0, if_pos ⟨hv, h0⟩]
      have h := loop_st (fun k => mj_run yZ_narrowTo w (zs z f n v (zm k (mnM C (gm (y + 1) 6 f)) C)) 22 [.inr (.inl z), .inr (.inl y), .inl (k : Int)] []) (Nat.zero_le 36) (fun k _ hk => by
        have g : (0 : Int) ≤ (k : Int) ∧ (k : Int) < ((36 : Nat) : Int) := ⟨by omega, by omega⟩
        rw [l_Z_narrowTo_22 hw _ z y _ hz hy, if_neg (by omega), mj_gd_pos g, mj_gd_pos g, mj_gd_pos g, Int.toNat_natCast, zs_cq hk, zm_at (Nat.le_refl k), (zs_y hz hy hne).2, gm_q (a := y + 1) (f := f) (q := k), zs_pq hk, wS (by omega)]
        have := zm_S k (mnM C (gm (y + 1) 6 f)) C
        rw [← this]
        rfl)
      rw [zm_0] at h
      refine h.trans ?_
      rw [l_Z_narrowTo_22 hw _ z y _ hz hy, if_pos (by omega), Z_close hw hz f hn, mj_bu_some]
    · rw [if_neg h0, if_neg (fun q => h0 q.2)]
  · rw [if_pos hv, if_neg (fun q => hv q.1)]
/-- a bound for whole numbers -/
def whB (b : Int) : Int := if 268435456 ≤ b then b else if mj_and b 1 = 1 then b else mj_w (b - 1)
theorem X_wholeBound (hw : wk sw w) (F : mj_F) (b : Int) : mj_call yX_wholeBound w F [.inl b] = some (w, F, some (.inl (whB b))) := by
  have hR : ∀ (F : mj_F) (b : Int), mj_call yX_reachedOf w F [.inl b] = some (w, F, some (.inl (mj_and b 1))) := fun F b => c_X_reachedOf hw F b
  rw [c_X_wholeBound hw]
  simp only [hR, mj_bi_some]
  unfold whB
  split
  · rfl
  · by_cases h : mj_and b 1 = 1
    · rw [if_neg (fun q => q h), if_pos h]
    · rw [if_pos h, if_neg h]
theorem Z_keepWhole (hw : wk sw w) {z : Nat} (hz : zn z = true) (f : mj_F) {n : Nat} (hn : n ≤ 6) (v : Int) (C : Mt) : mj_call yZ_keepWhole w (zs z f n v C) [.inr (.inl z)] = some (w, zs z f n (zcl n v (zm 36 (fun i j => whB (C i j)) C)).1 (zcl n v (zm 36 (fun i j => whB (C i j)) C)).2, none) := by
  rw [c_Z_keepWhole hw _ z hz]
  have h := loop_st (fun k => mj_run yZ_keepWhole w (zs z f n v (zm k (fun i j => whB (C i j)) C)) 2 [.inr (.inl z), .inl (k : Int)] []) (Nat.zero_le 36) (fun k _ hk => by
    have g : (0 : Int) ≤ (k : Int) ∧ (k : Int) < ((36 : Nat) : Int) := ⟨by omega, by omega⟩
    rw [l_Z_keepWhole_2 hw _ z _ hz, if_neg (by omega), mj_gd_pos g, Int.toNat_natCast, zs_cq hk, zm_at (Nat.le_refl k), X_wholeBound hw, mj_bi_some, mj_gd_pos g, zs_pq hk, wS (by omega)]
    have := zm_S k (fun i j => whB (C i j)) C
    rw [← this])
  rw [zm_0] at h
  refine h.trans ?_
  rw [l_Z_keepWhole_2 hw _ z _ hz, if_pos (by omega), Z_close hw hz f hn, mj_bu_some]
/-- does y lie in z -/
def cov (n : Nat) (A B : Mt) : Bool := any n (fun i => any n (fun j => decide (A i j < B i j)))
theorem Z_covers (hw : wk sw w) {z y : Nat} (hz : zn z = true) (hy : zn y = true) (F : mj_F) {n : Nat} (hn : n ≤ 6) (hF : F z 1 = (n : Int)) (hv : F y 2 = 0 ∨ F y 2 = 1) : mj_call yZ_covers w F [.inr (.inl z), .inr (.inl y)] = some (w, F, some (.inl (if F z 2 = 0 ∧ F y 2 = 0 then (if cov n (gm (z + 1) 6 F) (gm (y + 1) 6 F) = true then 0 else 1) else F y 2))) := by
  rw [c_Z_covers hw _ z y hz hy, mj_gd_pos hv]
  by_cases h1 : F z 2 = 0
  · rw [if_neg (fun q => q h1)]
    by_cases h2 : F y 2 = 0
    · rw [if_pos h2, if_pos ⟨h1, h2⟩]
      have hin : ∀ (i : Nat) (u : mj_V), i < n → (any n (fun j => decide (gm (z + 1) 6 F i j < gm (y + 1) 6 F i j)) = true ∧ mj_run yZ_covers w F 21 [.inr (.inl z), .inr (.inl y), .inl (i : Int), u] [] = some (w, F, some (.inl 0))) ∨ (any n (fun j => decide (gm (z + 1) 6 F i j < gm (y + 1) 6 F i j)) = false ∧ mj_run yZ_covers w F 21 [.inr (.inl z), .inr (.inl y), .inl (i : Int), u] [] = mj_run yZ_covers w F 21 [.inr (.inl z), .inr (.inl y), .inl ((i + 1 : Nat) : Int), .inl (n : Int)] []) := by
        intro i u hi
        have e : mj_run yZ_covers w F 21 [.inr (.inl z), .inr (.inl y), .inl (i : Int), u] [] = mj_run yZ_covers w F 31 [.inr (.inl z), .inr (.inl y), .inl (i : Int), .inl ((0 : Nat) : Int)] [] := by
          rw [l_Z_covers_21 hw _ z y _ _ hz hy, hF, if_neg (by omega)]
          rfl
        rw [e]
        rcases loop_any (fun j (_ : Unit) => mj_run yZ_covers w F 31 [.inr (.inl z), .inr (.inl y), .inl (i : Int), .inl (j : Int)] []) (some (w, F, some (.inl 0))) (fun j => decide (gm (z + 1) 6 F i j < gm (y + 1) 6 F i j)) n (fun j _ hj hg => by
            have hg := of_decide_eq_true hg
            rw [l_Z_covers_31 hw _ z y _ _ hz hy, hF, if_neg (by omega), Z_cellf hw hy F (by omega) (by omega), mj_bi_some, Z_cellf hw hz F (by omega) (by omega), mj_bi_some, if_neg (by omega)]) (fun j _ hj hg => by
            have hg := of_decide_eq_false hg
            exact ⟨(), by rw [l_Z_covers_31 hw _ z y _ _ hz hy, hF, if_neg (by omega), Z_cellf hw hy F (by omega) (by omega), mj_bi_some, Z_cellf hw hz F (by omega) (by omega), mj_bi_some, if_pos (by omega), wS (by omega)]⟩) () with ⟨a, b⟩ | ⟨a, _, b⟩
        · exact Or.inl ⟨a, b⟩
        · refine Or.inr ⟨a, b.trans ?_⟩
          rw [l_Z_covers_31 hw _ z y _ _ hz hy, hF, if_pos (by omega), wS (by omega)]
      rcases loop_any (fun i (u : mj_V) => mj_run yZ_covers w F 21 [.inr (.inl z), .inr (.inl y), .inl (i : Int), u] []) (some (w, F, some (.inl 0))) (fun i => any n (fun j => decide (gm (z + 1) 6 F i j < gm (y + 1) 6 F i j))) n (fun i u hi hg => by
          rcases hin i u hi with ⟨_, b⟩ | ⟨a, _⟩
          · exact b
          · rw [hg] at a; cases a) (fun i u hi hg => by
          rcases hin i u hi with ⟨a, _⟩ | ⟨_, b⟩
          · rw [hg] at a; cases a
          · exact ⟨_, b⟩) (.inr (.inr (.inr 0))) with ⟨a, b⟩ | ⟨a, u, b⟩
      · refine b.trans ?_
        unfold cov
        rw [if_pos a]
      · refine b.trans ?_
        unfold cov
        rw [l_Z_covers_21 hw _ z y _ _ hz hy, hF, if_pos (by omega), a]
        rfl
    · rw [if_neg h2, if_neg (fun q => h2 q.2)]
  · rw [if_pos h1, if_neg (fun q => h1 q.1)]
end ZZ
