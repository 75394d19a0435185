/-! whole. -/
theorem bmod_s {x : Int} (h : 0 ≤ x ∧ x < 1000000) : x.bmod (2 ^ 32) = x := by
  rw [Int.bmod_def]
  have e : ((2 ^ 32 : Nat) : Int) = 4294967296 := rfl
  rw [e]
  split <;> omega
theorem div_N {a b : Nat} (ha : a < 100000) (hb : 0 < b) (hb2 : b < 100) : mj_div (a : Int) (b : Int) = ((a / b : Nat) : Int) := by
  unfold mj_div
  have h1 : a / b ≤ a := Nat.div_le_self a b
  rw [Int32.toInt_div, bi_toInt (by omega), bi_toInt (by omega), Int.tdiv_eq_ediv_of_nonneg (by omega), ← Int.natCast_ediv]
  generalize a / b = q at h1
  exact bmod_s ⟨by omega, by omega⟩
theorem rem_N {a b : Nat} (ha : a < 100000) (hb : 0 < b) (hb2 : b < 100) : mj_rem (a : Int) (b : Int) = ((a % b : Nat) : Int) := by
  have h2 := div_N ha hb hb2
  have h3 : b * (a / b) + a % b = a := Nat.div_add_mod a b
  have h5 : a / b * b = b * (a / b) := Nat.mul_comm _ _
  have h4 : ((a / b : Nat) : Int) * (b : Int) = ((a / b * b : Nat) : Int) := (Int.natCast_mul _ _).symm
  have h7 : a % b < b := Nat.mod_lt a hb
  unfold mj_div at h2
  unfold mj_rem
  rw [Int32.toInt_sub, Int32.toInt_mul, h2, bi_toInt (by omega), bi_toInt (by omega), h4]
  rw [← h5] at h3
  clear h2 h4 h5
  generalize a / b * b = p at h3
  generalize a % b = r at h3 h7
  have i1 : ((p : Nat) : Int).bmod (2 ^ 32) = (p : Int) := bmod_s ⟨by omega, by omega⟩
  rw [i1, show (a : Int) - (p : Int) = (r : Int) by omega]
  exact bmod_s ⟨by omega, by omega⟩
theorem sumN_b {g : Nat → Int} {B : Int} : ∀ n, (∀ i, i < n → 0 ≤ g i ∧ g i ≤ B) → 0 ≤ sumN n g ∧ sumN n g ≤ (n : Int) * B := by
  intro n
  induction n with
  | zero => intro _; show (0 : Int) ≤ 0 ∧ (0 : Int) ≤ ((0 : Nat) : Int) * B; rw [show ((0 : Nat) : Int) = 0 from rfl, Int.zero_mul]; omega
  | succ n ih =>
    intro h
    have i1 := ih (fun i hi => h i (by omega))
    have i2 := h n (by omega)
    show 0 ≤ sumN n g + g n ∧ sumN n g + g n ≤ ((n + 1 : Nat) : Int) * B
    have e : ((n + 1 : Nat) : Int) * B = (n : Int) * B + B := by rw [Int.natCast_add, Int.add_mul]; show (n : Int) * B + 1 * B = _; rw [Int.one_mul]
    rw [e]
    omega
theorem pF_b {C : Mt} : ∀ d c t, 0 ≤ pF C d c t ∧ pF C d c t ≤ ((10 ^ d : Nat) : Int) := by
  intro d
  induction d with
  | zero => intro c t; show (0 : Int) ≤ 1 ∧ (1 : Int) ≤ ((1 : Nat) : Int); omega
  | succ d ih =>
    intro c t
    have h := sumN_b (g := fun v => pF C d (c + 1) (up1 t c (loP C t c c + (v : Int)))) (B := ((10 ^ d : Nat) : Int)) (hiP C t c c - loP C t c c + 1).toNat (fun i _ => ih _ _)
    have a := loP_0 (C := C) (t := t) (c := c) (m := c)
    have b := hiP_9 (C := C) (t := t) (c := c) (m := c)
    refine ⟨h.1, Int.le_trans h.2 ?_⟩
    have e : ((10 ^ (d + 1) : Nat) : Int) = 10 * ((10 ^ d : Nat) : Int) := by rw [Nat.pow_succ, Nat.mul_comm, Int.natCast_mul]; rfl
    rw [e]
    exact Int.mul_le_mul_of_nonneg_right (by omega) (Int.natCast_nonneg _)
theorem loP_c {C : Mt} {t s : Nat → Int} {c : Nat} : ∀ m, (∀ k, k < m → t k = s k) → loP C t c m = loP C s c m := by
  intro m
  induction m with
  | zero => exact fun _ => rfl
  | succ m ih =>
    intro h
    show (if loP C t c m < t m - C m c / 2 then t m - C m c / 2 else loP C t c m) = (if loP C s c m < s m - C m c / 2 then s m - C m c / 2 else loP C s c m)
    rw [ih (fun k hk => h k (by omega)), h m (by omega)]
theorem hiP_c {C : Mt} {t s : Nat → Int} {c : Nat} : ∀ m, (∀ k, k < m → t k = s k) → hiP C t c m = hiP C s c m := by
  intro m
  induction m with
  | zero => exact fun _ => rfl
  | succ m ih =>
    intro h
    show (if t m + C c m / 2 < hiP C t c m then t m + C c m / 2 else hiP C t c m) = (if s m + C c m / 2 < hiP C s c m then s m + C c m / 2 else hiP C s c m)
    rw [ih (fun k hk => h k (by omega)), h m (by omega)]
theorem pF_c {C : Mt} : ∀ d c t s, (∀ k, k < c → t k = s k) → pF C d c t = pF C d c s := by
  intro d
  induction d with
  | zero => exact fun _ _ _ _ => rfl
  | succ d ih =>
    intro c t s h
    show sumN _ _ = sumN _ _
    rw [loP_c c h, hiP_c c h]
    refine sumN_c (fun v _ => ih (c + 1) _ _ (fun k hk => ?_))
    show (if k = c then _ else t k) = (if k = c then _ else s k)
    by_cases hkc : k = c
    · rw [if_pos hkc, if_pos hkc]
    · rw [if_neg hkc, if_neg hkc]; exact h k (by omega)
theorem zs_uo {z a k : Nat} {f : mj_F} {n v b : Int} {C : Mt} (h1 : a ≠ z) (h2 : a ≠ z + 1) : mj_u (zs z f n v C) a k b = zs z (mj_u f a k b) n v C := by
  unfold zs
  rw [sm_u h2]
  congr 1
  funext x q
  unfold mj_u
  by_cases ha : x = a ∧ q = k
  · rw [if_pos ha, if_neg (by omega), if_neg (by omega), if_pos ha]
  · rw [if_neg ha]
    by_cases h3 : x = z ∧ q = 2
    · rw [if_pos h3, if_pos h3]
    · rw [if_neg h3, if_neg h3]
      by_cases h4 : x = z ∧ q = 1
      · rw [if_pos h4, if_pos h4]
      · rw [if_neg h4, if_neg h4, if_neg ha]
section WH
variable {sw : Bool} {w : mj_W}
theorem X_pf0 (hw : wk sw w) {n c : Nat} (C : Mt) (v : Int) (h1 : 1 ≤ c) (hcn : c ≤ n) (hn : n ≤ 5) (hl : n - c ≤ 0) (hC : NC n C) (G : mj_F) (ht : ∀ k, k < c → 0 ≤ G 36 k ∧ G 36 k ≤ 9) : ∃ G', mj_call yX_pointsFrom0 w (zs 32 G (n : Int) v C) [.inr (.inl 32), .inr (.inl 36), .inl (c : Int)] = some (w, zs 32 G' (n : Int) v C, some (.inl (pF C (n - c) c (G 36)))) ∧ ∀ a q, a ≠ 36 ∨ q < c → G' a q = G a q := by
  have hc : c = n := by omega
  subst hc
  refine ⟨G, ?_, fun _ _ _ => rfl⟩
  rw [c_X_pointsFrom0 hw _ 32 36 6 _ zn32 (k_36 hw), zs_n, if_neg (by omega), Nat.sub_self]
  rfl
theorem X_pf1 (hw : wk sw w) {n c : Nat} (C : Mt) (v : Int) (h1 : 1 ≤ c) (hcn : c ≤ n) (hn : n ≤ 5) (hl : n - c ≤ 1) (hC : NC n C) (G : mj_F) (ht : ∀ k, k < c → 0 ≤ G 36 k ∧ G 36 k ≤ 9) : ∃ G', mj_call yX_pointsFrom1 w (zs 32 G (n : Int) v C) [.inr (.inl 32), .inr (.inl 36), .inl (c : Int)] = some (w, zs 32 G' (n : Int) v C, some (.inl (pF C (n - c) c (G 36)))) ∧ ∀ a q, a ≠ 36 ∨ q < c → G' a q = G a q := by
  by_cases hc : c = n
  · subst hc
    refine ⟨G, ?_, fun _ _ _ => rfl⟩
    rw [c_X_pointsFrom1 hw _ 32 36 6 _ zn32 (k_36 hw), zs_n, if_neg (by omega), Nat.sub_self]
    rfl
  · obtain ⟨d, hd⟩ : ∃ d, n - c = d + 1 := ⟨n - c - 1, by omega⟩
    have z36 : ∀ (G : mj_F) (k : Nat), zs 32 G (n : Int) v C 36 k = G 36 k := fun G k => zs_o (by decide) (by decide)
    have e0 : mj_call yX_pointsFrom1 w (zs 32 G (n : Int) v C) [.inr (.inl 32), .inr (.inl 36), .inl (c : Int)] = mj_run yX_pointsFrom1 w (zs 32 G (n : Int) v C) 19 [.inr (.inl 32), .inr (.inl 36), .inl (c : Int), .inl (loP C (G 36) c c), .inl (hiP C (G 36) c c), .inl (c : Int), .inr (.inr (.inr 0))] [] := by
      rw [c_X_pointsFrom1 hw _ 32 36 6 _ zn32 (k_36 hw), zs_n, if_pos (by omega)]
      exact loop_st (fun j => mj_run yX_pointsFrom1 w (zs 32 G (n : Int) v C) 19 [.inr (.inl 32), .inr (.inl 36), .inl (c : Int), .inl (loP C (G 36) c j), .inl (hiP C (G 36) c j), .inl (j : Int), .inr (.inr (.inr 0))] []) (Nat.zero_le c) (fun j _ hj => by
        have a1 := hC j c (by omega) (by omega)
        have a2 := hC c j (by omega) (by omega)
        have a3 := ht j hj
        rw [l_X_pointsFrom1_19 hw _ 32 36 6 _ _ _ _ zn32 (k_36 hw), if_neg (by omega), mj_gd_pos ⟨by omega, by omega⟩, Z_cell hw zn32 G _ v C (by omega) (by omega), mj_bi_some, c_X_numberOf hw, mj_bi_some, mj_gd_pos ⟨by omega, by omega⟩, Z_cell hw zn32 G _ v C (by omega) (by omega), mj_bi_some, c_X_numberOf hw, mj_bi_some, Int.toNat_natCast, z36, shr_1 (by omega), shr_1 (by omega), w_id (a := G 36 j - C j c / 2) (by omega), w_id (a := G 36 j + C c j / 2) (by omega), wS (by omega)]
        rfl)
    have lo0 := loP_0 (C := C) (t := G 36) (c := c) (m := c)
    have hi9 := hiP_9 (C := C) (t := G 36) (c := c) (m := c)
    have lob : loP C (G 36) c c ≤ 300000000 := (loP_iff c).2 ⟨by omega, fun j hj => by have := hC j c (by omega) (by omega); have := ht j hj; omega⟩
    have hib : -300000000 ≤ hiP C (G 36) c c := (hiP_iff c).2 ⟨by omega, fun j hj => by have := hC c j (by omega) (by omega); have := ht j hj; omega⟩
    rw [l_X_pointsFrom1_19 hw _ 32 36 6 _ _ _ _ zn32 (k_36 hw), if_pos (Int.le_refl _), zs_n, wN1 (by omega)] at e0
    by_cases hlast : c = n - 1
    · have hd0 : d = 0 := by omega
      subst hd0
      refine ⟨G, ?_, fun _ _ _ => rfl⟩
      rw [e0, if_neg (by omega), w_id (a := hiP C (G 36) c c - loP C (G 36) c c) (by omega), w_id (by omega), hd]
      have e1 : pF C (0 + 1) c (G 36) = ((hiP C (G 36) c c - loP C (G 36) c c + 1).toNat : Int) := by
        show sumN (hiP C (G 36) c c - loP C (G 36) c c + 1).toNat (fun _ => 1) = _
        exact sumN_1 _
      rw [e1]
      by_cases hp : 0 < hiP C (G 36) c c - loP C (G 36) c c + 1
      · rw [if_pos hp, show ((hiP C (G 36) c c - loP C (G 36) c c + 1).toNat : Int) = hiP C (G 36) c c - loP C (G 36) c c + 1 by omega]
      · rw [if_neg hp, show ((hiP C (G 36) c c - loP C (G 36) c c + 1).toNat : Int) = 0 by omega]
    · rw [if_pos (by omega)] at e0
      have hd4 : d ≤ 3 := by omega
      have p4 : 10 ^ d ≤ 1000 := Nat.pow_le_pow_right (n := 10) (by decide) hd4
      have key : ∀ k, k ≤ (hiP C (G 36) c c - loP C (G 36) c c + 1).toNat → ∃ G', mj_run yX_pointsFrom1 w (zs 32 G (n : Int) v C) 100 [.inr (.inl 32), .inr (.inl 36), .inl (c : Int), .inl (loP C (G 36) c c), .inl (hiP C (G 36) c c), .inl 0, .inl (loP C (G 36) c c)] [] = mj_run yX_pointsFrom1 w (zs 32 G' (n : Int) v C) 100 [.inr (.inl 32), .inr (.inl 36), .inl (c : Int), .inl (loP C (G 36) c c), .inl (hiP C (G 36) c c), .inl (sumN k (fun i => pF C d (c + 1) (up1 (G 36) c (loP C (G 36) c c + (i : Int))))), .inl (loP C (G 36) c c + (k : Int))] [] ∧ ∀ a q, a ≠ 36 ∨ q < c → G' a q = G a q := by
        intro k
        induction k with
        | zero =>
          intro _
          refine ⟨G, ?_, fun _ _ _ => rfl⟩
          rw [show loP C (G 36) c c + ((0 : Nat) : Int) = loP C (G 36) c c by omega]
          rfl
        | succ k ih =>
          intro hk
          obtain ⟨G', e, o⟩ := ih (by omega)
          obtain ⟨x, hx⟩ : ∃ x : Nat, loP C (G 36) c c + (k : Int) = (x : Int) := ⟨(loP C (G 36) c c + (k : Int)).toNat, by omega⟩
          have hx9 : x ≤ 9 := by omega
          have ht' : ∀ k, k < c + 1 → 0 ≤ mj_u G' 36 c (x : Int) 36 k ∧ mj_u G' 36 c (x : Int) 36 k ≤ 9 := fun k hk => by
            by_cases hkc : k = c
            · rw [hkc, u_self]; omega
            · rw [u_o (Or.inr hkc), o 36 k (Or.inr (by omega))]; exact ht k (by omega)
          obtain ⟨G'', e2, o2⟩ := X_pf0 hw C v (show 1 ≤ c + 1 by omega) (show c + 1 ≤ n by omega) hn (by omega) hC (mj_u G' 36 c (x : Int)) ht'
          have ep : pF C (n - (c + 1)) (c + 1) (mj_u G' 36 c (x : Int) 36) = pF C d (c + 1) (up1 (G 36) c (loP C (G 36) c c + (k : Int))) := by
            rw [show n - (c + 1) = d by omega]
            refine pF_c d (c + 1) _ _ (fun j hj => ?_)
            show mj_u G' 36 c (x : Int) 36 j = (if j = c then loP C (G 36) c c + (k : Int) else G 36 j)
            by_cases hjc : j = c
            · rw [hjc, u_self, if_pos rfl, hx]
            · rw [u_o (Or.inr hjc), if_neg hjc, o 36 j (Or.inr (by omega))]
          have sb := sumN_b (g := fun i => pF C d (c + 1) (up1 (G 36) c (loP C (G 36) c c + (i : Int)))) (B := ((10 ^ d : Nat) : Int)) k (fun i _ => pF_b d _ _)
          have pb := pF_b (C := C) d (c + 1) (up1 (G 36) c (loP C (G 36) c c + (k : Int)))
          have sb2 : (k : Int) * ((10 ^ d : Nat) : Int) ≤ 10 * 1000 := by
            have : k * 10 ^ d ≤ 10 * 1000 := Nat.mul_le_mul (by omega) p4
            rw [← Int.natCast_mul]
            omega
          have p4' : ((10 ^ d : Nat) : Int) ≤ 1000 := by omega
          have hs : sumN (k + 1) (fun i => pF C d (c + 1) (up1 (G 36) c (loP C (G 36) c c + (i : Int)))) = sumN k (fun i => pF C d (c + 1) (up1 (G 36) c (loP C (G 36) c c + (i : Int)))) + pF C d (c + 1) (up1 (G 36) c (loP C (G 36) c c + (k : Int))) := rfl
          refine ⟨G'', e.trans ?_, fun a q h => ?_⟩
          · rw [hs]
            generalize sumN k (fun i => pF C d (c + 1) (up1 (G 36) c (loP C (G 36) c c + (i : Int)))) = S at sb
            rw [l_X_pointsFrom1_100 hw _ 32 36 6 _ _ _ _ _ zn32 (k_36 hw), if_neg (by omega), mj_gd_pos ⟨by omega, by omega⟩, Int.toNat_natCast, hx, zs_uo (by decide) (by decide), wS (by omega), e2, mj_bi_some, ep, ← hx, w_id (a := loP C (G 36) c c + (k : Int) + 1) (by omega), show loP C (G 36) c c + ((k + 1 : Nat) : Int) = loP C (G 36) c c + (k : Int) + 1 by omega]
            generalize pF C d (c + 1) (up1 (G 36) c (loP C (G 36) c c + (k : Int))) = Q at pb
            rw [w_id (a := S + Q) (by omega)]
          · rw [o2 a q (by omega), u_o (by omega)]
            exact o a q h
      obtain ⟨G', e, o⟩ := key _ (Nat.le_refl _)
      refine ⟨G', ?_, o⟩
      rw [e0, e, l_X_pointsFrom1_100 hw _ 32 36 6 _ _ _ _ _ zn32 (k_36 hw), if_pos (by omega), hd]
      rfl
theorem X_pf2 (hw : wk sw w) {n c : Nat} (C : Mt) (v : Int) (h1 : 1 ≤ c) (hcn : c ≤ n) (hn : n ≤ 5) (hl : n - c ≤ 2) (hC : NC n C) (G : mj_F) (ht : ∀ k, k < c → 0 ≤ G 36 k ∧ G 36 k ≤ 9) : ∃ G', mj_call yX_pointsFrom2 w (zs 32 G (n : Int) v C) [.inr (.inl 32), .inr (.inl 36), .inl (c : Int)] = some (w, zs 32 G' (n : Int) v C, some (.inl (pF C (n - c) c (G 36)))) ∧ ∀ a q, a ≠ 36 ∨ q < c → G' a q = G a q := by
  by_cases hc : c = n
  · subst hc
    refine ⟨G, ?_, fun _ _ _ => rfl⟩
    rw [c_X_pointsFrom2 hw _ 32 36 6 _ zn32 (k_36 hw), zs_n, if_neg (by omega), Nat.sub_self]
    rfl
  · obtain ⟨d, hd⟩ : ∃ d, n - c = d + 1 := ⟨n - c - 1, by omega⟩
    have z36 : ∀ (G : mj_F) (k : Nat), zs 32 G (n : Int) v C 36 k = G 36 k := fun G k => zs_o (by decide) (by decide)
    have e0 : mj_call yX_pointsFrom2 w (zs 32 G (n : Int) v C) [.inr (.inl 32), .inr (.inl 36), .inl (c : Int)] = mj_run yX_pointsFrom2 w (zs 32 G (n : Int) v C) 19 [.inr (.inl 32), .inr (.inl 36), .inl (c : Int), .inl (loP C (G 36) c c), .inl (hiP C (G 36) c c), .inl (c : Int), .inr (.inr (.inr 0))] [] := by
      rw [c_X_pointsFrom2 hw _ 32 36 6 _ zn32 (k_36 hw), zs_n, if_pos (by omega)]
      exact loop_st (fun j => mj_run yX_pointsFrom2 w (zs 32 G (n : Int) v C) 19 [.inr (.inl 32), .inr (.inl 36), .inl (c : Int), .inl (loP C (G 36) c j), .inl (hiP C (G 36) c j), .inl (j : Int), .inr (.inr (.inr 0))] []) (Nat.zero_le c) (fun j _ hj => by
        have a1 := hC j c (by omega) (by omega)
        have a2 := hC c j (by omega) (by omega)
        have a3 := ht j hj
        rw [l_X_pointsFrom2_19 hw _ 32 36 6 _ _ _ _ zn32 (k_36 hw), if_neg (by omega), mj_gd_pos ⟨by omega, by omega⟩, Z_cell hw zn32 G _ v C (by omega) (by omega), mj_bi_some, c_X_numberOf hw, mj_bi_some, mj_gd_pos ⟨by omega, by omega⟩, Z_cell hw zn32 G _ v C (by omega) (by omega), mj_bi_some, c_X_numberOf hw, mj_bi_some, Int.toNat_natCast, z36, shr_1 (by omega), shr_1 (by omega), w_id (a := G 36 j - C j c / 2) (by omega), w_id (a := G 36 j + C c j / 2) (by omega), wS (by omega)]
        rfl)
    have lo0 := loP_0 (C := C) (t := G 36) (c := c) (m := c)
    have hi9 := hiP_9 (C := C) (t := G 36) (c := c) (m := c)
    have lob : loP C (G 36) c c ≤ 300000000 := (loP_iff c).2 ⟨by omega, fun j hj => by have := hC j c (by omega) (by omega); have := ht j hj; omega⟩
    have hib : -300000000 ≤ hiP C (G 36) c c := (hiP_iff c).2 ⟨by omega, fun j hj => by have := hC c j (by omega) (by omega); have := ht j hj; omega⟩
    rw [l_X_pointsFrom2_19 hw _ 32 36 6 _ _ _ _ zn32 (k_36 hw), if_pos (Int.le_refl _), zs_n, wN1 (by omega)] at e0
    by_cases hlast : c = n - 1
    · have hd0 : d = 0 := by omega
      subst hd0
      refine ⟨G, ?_, fun _ _ _ => rfl⟩
      rw [e0, if_neg (by omega), w_id (a := hiP C (G 36) c c - loP C (G 36) c c) (by omega), w_id (by omega), hd]
      have e1 : pF C (0 + 1) c (G 36) = ((hiP C (G 36) c c - loP C (G 36) c c + 1).toNat : Int) := by
        show sumN (hiP C (G 36) c c - loP C (G 36) c c + 1).toNat (fun _ => 1) = _
        exact sumN_1 _
      rw [e1]
      by_cases hp : 0 < hiP C (G 36) c c - loP C (G 36) c c + 1
      · rw [if_pos hp, show ((hiP C (G 36) c c - loP C (G 36) c c + 1).toNat : Int) = hiP C (G 36) c c - loP C (G 36) c c + 1 by omega]
      · rw [if_neg hp, show ((hiP C (G 36) c c - loP C (G 36) c c + 1).toNat : Int) = 0 by omega]
    · rw [if_pos (by omega)] at e0
      have hd4 : d ≤ 3 := by omega
      have p4 : 10 ^ d ≤ 1000 := Nat.pow_le_pow_right (n := 10) (by decide) hd4
      have key : ∀ k, k ≤ (hiP C (G 36) c c - loP C (G 36) c c + 1).toNat → ∃ G', mj_run yX_pointsFrom2 w (zs 32 G (n : Int) v C) 100 [.inr (.inl 32), .inr (.inl 36), .inl (c : Int), .inl (loP C (G 36) c c), .inl (hiP C (G 36) c c), .inl 0, .inl (loP C (G 36) c c)] [] = mj_run yX_pointsFrom2 w (zs 32 G' (n : Int) v C) 100 [.inr (.inl 32), .inr (.inl 36), .inl (c : Int), .inl (loP C (G 36) c c), .inl (hiP C (G 36) c c), .inl (sumN k (fun i => pF C d (c + 1) (up1 (G 36) c (loP C (G 36) c c + (i : Int))))), .inl (loP C (G 36) c c + (k : Int))] [] ∧ ∀ a q, a ≠ 36 ∨ q < c → G' a q = G a q := by
        intro k
        induction k with
        | zero =>
          intro _
          refine ⟨G, ?_, fun _ _ _ => rfl⟩
          rw [show loP C (G 36) c c + ((0 : Nat) : Int) = loP C (G 36) c c by omega]
          rfl
        | succ k ih =>
          intro hk
          obtain ⟨G', e, o⟩ := ih (by omega)
          obtain ⟨x, hx⟩ : ∃ x : Nat, loP C (G 36) c c + (k : Int) = (x : Int) := ⟨(loP C (G 36) c c + (k : Int)).toNat, by omega⟩
          have hx9 : x ≤ 9 := by omega
          have ht' : ∀ k, k < c + 1 → 0 ≤ mj_u G' 36 c (x : Int) 36 k ∧ mj_u G' 36 c (x : Int) 36 k ≤ 9 := fun k hk => by
            by_cases hkc : k = c
            · rw [hkc, u_self]; omega
            · rw [u_o (Or.inr hkc), o 36 k (Or.inr (by omega))]; exact ht k (by omega)
          obtain ⟨G'', e2, o2⟩ := X_pf1 hw C v (show 1 ≤ c + 1 by omega) (show c + 1 ≤ n by omega) hn (by omega) hC (mj_u G' 36 c (x : Int)) ht'
          have ep : pF C (n - (c + 1)) (c + 1) (mj_u G' 36 c (x : Int) 36) = pF C d (c + 1) (up1 (G 36) c (loP C (G 36) c c + (k : Int))) := by
            rw [show n - (c + 1) = d by omega]
            refine pF_c d (c + 1) _ _ (fun j hj => ?_)
            show mj_u G' 36 c (x : Int) 36 j = (if j = c then loP C (G 36) c c + (k : Int) else G 36 j)
            by_cases hjc : j = c
            · rw [hjc, u_self, if_pos rfl, hx]
            · rw [u_o (Or.inr hjc), if_neg hjc, o 36 j (Or.inr (by omega))]
          have sb := sumN_b (g := fun i => pF C d (c + 1) (up1 (G 36) c (loP C (G 36) c c + (i : Int)))) (B := ((10 ^ d : Nat) : Int)) k (fun i _ => pF_b d _ _)
          have pb := pF_b (C := C) d (c + 1) (up1 (G 36) c (loP C (G 36) c c + (k : Int)))
          have sb2 : (k : Int) * ((10 ^ d : Nat) : Int) ≤ 10 * 1000 := by
            have : k * 10 ^ d ≤ 10 * 1000 := Nat.mul_le_mul (by omega) p4
            rw [← Int.natCast_mul]
            omega
          have p4' : ((10 ^ d : Nat) : Int) ≤ 1000 := by omega
          have hs : sumN (k + 1) (fun i => pF C d (c + 1) (up1 (G 36) c (loP C (G 36) c c + (i : Int)))) = sumN k (fun i => pF C d (c + 1) (up1 (G 36) c (loP C (G 36) c c + (i : Int)))) + pF C d (c + 1) (up1 (G 36) c (loP C (G 36) c c + (k : Int))) := rfl
          refine ⟨G'', e.trans ?_, fun a q h => ?_⟩
          · rw [hs]
            generalize sumN k (fun i => pF C d (c + 1) (up1 (G 36) c (loP C (G 36) c c + (i : Int)))) = S at sb
            rw [l_X_pointsFrom2_100 hw _ 32 36 6 _ _ _ _ _ zn32 (k_36 hw), if_neg (by omega), mj_gd_pos ⟨by omega, by omega⟩, Int.toNat_natCast, hx, zs_uo (by decide) (by decide), wS (by omega), e2, mj_bi_some, ep, ← hx, w_id (a := loP C (G 36) c c + (k : Int) + 1) (by omega), show loP C (G 36) c c + ((k + 1 : Nat) : Int) = loP C (G 36) c c + (k : Int) + 1 by omega]
            generalize pF C d (c + 1) (up1 (G 36) c (loP C (G 36) c c + (k : Int))) = Q at pb
            rw [w_id (a := S + Q) (by omega)]
          · rw [o2 a q (by omega), u_o (by omega)]
            exact o a q h
      obtain ⟨G', e, o⟩ := key _ (Nat.le_refl _)
      refine ⟨G', ?_, o⟩
      rw [e0, e, l_X_pointsFrom2_100 hw _ 32 36 6 _ _ _ _ _ zn32 (k_36 hw), if_pos (by omega), hd]
      rfl
theorem X_pf3 (hw : wk sw w) {n c : Nat} (C : Mt) (v : Int) (h1 : 1 ≤ c) (hcn : c ≤ n) (hn : n ≤ 5) (hl : n - c ≤ 3) (hC : NC n C) (G : mj_F) (ht : ∀ k, k < c → 0 ≤ G 36 k ∧ G 36 k ≤ 9) : ∃ G', mj_call yX_pointsFrom3 w (zs 32 G (n : Int) v C) [.inr (.inl 32), .inr (.inl 36), .inl (c : Int)] = some (w, zs 32 G' (n : Int) v C, some (.inl (pF C (n - c) c (G 36)))) ∧ ∀ a q, a ≠ 36 ∨ q < c → G' a q = G a q := by
  by_cases hc : c = n
  · subst hc
    refine ⟨G, ?_, fun _ _ _ => rfl⟩
    rw [c_X_pointsFrom3 hw _ 32 36 6 _ zn32 (k_36 hw), zs_n, if_neg (by omega), Nat.sub_self]
    rfl
  · obtain ⟨d, hd⟩ : ∃ d, n - c = d + 1 := ⟨n - c - 1, by omega⟩
    have z36 : ∀ (G : mj_F) (k : Nat), zs 32 G (n : Int) v C 36 k = G 36 k := fun G k => zs_o (by decide) (by decide)
    have e0 : mj_call yX_pointsFrom3 w (zs 32 G (n : Int) v C) [.inr (.inl 32), .inr (.inl 36), .inl (c : Int)] = mj_run yX_pointsFrom3 w (zs 32 G (n : Int) v C) 19 [.inr (.inl 32), .inr (.inl 36), .inl (c : Int), .inl (loP C (G 36) c c), .inl (hiP C (G 36) c c), .inl (c : Int), .inr (.inr (.inr 0))] [] := by
      rw [c_X_pointsFrom3 hw _ 32 36 6 _ zn32 (k_36 hw), zs_n, if_pos (by omega)]
      exact loop_st (fun j => mj_run yX_pointsFrom3 w (zs 32 G (n : Int) v C) 19 [.inr (.inl 32), .inr (.inl 36), .inl (c : Int), .inl (loP C (G 36) c j), .inl (hiP C (G 36) c j), .inl (j : Int), .inr (.inr (.inr 0))] []) (Nat.zero_le c) (fun j _ hj => by
        have a1 := hC j c (by omega) (by omega)
        have a2 := hC c j (by omega) (by omega)
        have a3 := ht j hj
        rw [l_X_pointsFrom3_19 hw _ 32 36 6 _ _ _ _ zn32 (k_36 hw), if_neg (by omega), mj_gd_pos ⟨by omega, by omega⟩, Z_cell hw zn32 G _ v C (by omega) (by omega), mj_bi_some, c_X_numberOf hw, mj_bi_some, mj_gd_pos ⟨by omega, by omega⟩, Z_cell hw zn32 G _ v C (by omega) (by omega), mj_bi_some, c_X_numberOf hw, mj_bi_some, Int.toNat_natCast, z36, shr_1 (by omega), shr_1 (by omega), w_id (a := G 36 j - C j c / 2) (by omega), w_id (a := G 36 j + C c j / 2) (by omega), wS (by omega)]
        rfl)
    have lo0 := loP_0 (C := C) (t := G 36) (c := c) (m := c)
    have hi9 := hiP_9 (C := C) (t := G 36) (c := c) (m := c)
    have lob : loP C (G 36) c c ≤ 300000000 := (loP_iff c).2 ⟨by omega, fun j hj => by have := hC j c (by omega) (by omega); have := ht j hj; omega⟩
    have hib : -300000000 ≤ hiP C (G 36) c c := (hiP_iff c).2 ⟨by omega, fun j hj => by have := hC c j (by omega) (by omega); have := ht j hj; omega⟩
    rw [l_X_pointsFrom3_19 hw _ 32 36 6 _ _ _ _ zn32 (k_36 hw), if_pos (Int.le_refl _), zs_n, wN1 (by omega)] at e0
    by_cases hlast : c = n - 1
    · have hd0 : d = 0 := by omega
      subst hd0
      refine ⟨G, ?_, fun _ _ _ => rfl⟩
      rw [e0, if_neg (by omega), w_id (a := hiP C (G 36) c c - loP C (G 36) c c) (by omega), w_id (by omega), hd]
      have e1 : pF C (0 + 1) c (G 36) = ((hiP C (G 36) c c - loP C (G 36) c c + 1).toNat : Int) := by
        show sumN (hiP C (G 36) c c - loP C (G 36) c c + 1).toNat (fun _ => 1) = _
        exact sumN_1 _
      rw [e1]
      by_cases hp : 0 < hiP C (G 36) c c - loP C (G 36) c c + 1
      · rw [if_pos hp, show ((hiP C (G 36) c c - loP C (G 36) c c + 1).toNat : Int) = hiP C (G 36) c c - loP C (G 36) c c + 1 by omega]
      · rw [if_neg hp, show ((hiP C (G 36) c c - loP C (G 36) c c + 1).toNat : Int) = 0 by omega]
    · rw [if_pos (by omega)] at e0
      have hd4 : d ≤ 3 := by omega
      have p4 : 10 ^ d ≤ 1000 := Nat.pow_le_pow_right (n := 10) (by decide) hd4
      have key : ∀ k, k ≤ (hiP C (G 36) c c - loP C (G 36) c c + 1).toNat → ∃ G', mj_run yX_pointsFrom3 w (zs 32 G (n : Int) v C) 100 [.inr (.inl 32), .inr (.inl 36), .inl (c : Int), .inl (loP C (G 36) c c), .inl (hiP C (G 36) c c), .inl 0, .inl (loP C (G 36) c c)] [] = mj_run yX_pointsFrom3 w (zs 32 G' (n : Int) v C) 100 [.inr (.inl 32), .inr (.inl 36), .inl (c : Int), .inl (loP C (G 36) c c), .inl (hiP C (G 36) c c), .inl (sumN k (fun i => pF C d (c + 1) (up1 (G 36) c (loP C (G 36) c c + (i : Int))))), .inl (loP C (G 36) c c + (k : Int))] [] ∧ ∀ a q, a ≠ 36 ∨ q < c → G' a q = G a q := by
        intro k
        induction k with
        | zero =>
          intro _
          refine ⟨G, ?_, fun _ _ _ => rfl⟩
          rw [show loP C (G 36) c c + ((0 : Nat) : Int) = loP C (G 36) c c by omega]
          rfl
        | succ k ih =>
          intro hk
          obtain ⟨G', e, o⟩ := ih (by omega)
          obtain ⟨x, hx⟩ : ∃ x : Nat, loP C (G 36) c c + (k : Int) = (x : Int) := ⟨(loP C (G 36) c c + (k : Int)).toNat, by omega⟩
          have hx9 : x ≤ 9 := by omega
          have ht' : ∀ k, k < c + 1 → 0 ≤ mj_u G' 36 c (x : Int) 36 k ∧ mj_u G' 36 c (x : Int) 36 k ≤ 9 := fun k hk => by
            by_cases hkc : k = c
            · rw [hkc, u_self]; omega
            · rw [u_o (Or.inr hkc), o 36 k (Or.inr (by omega))]; exact ht k (by omega)
          obtain ⟨G'', e2, o2⟩ := X_pf2 hw C v (show 1 ≤ c + 1 by omega) (show c + 1 ≤ n by omega) hn (by omega) hC (mj_u G' 36 c (x : Int)) ht'
          have ep : pF C (n - (c + 1)) (c + 1) (mj_u G' 36 c (x : Int) 36) = pF C d (c + 1) (up1 (G 36) c (loP C (G 36) c c + (k : Int))) := by
            rw [show n - (c + 1) = d by omega]
            refine pF_c d (c + 1) _ _ (fun j hj => ?_)
            show mj_u G' 36 c (x : Int) 36 j = (if j = c then loP C (G 36) c c + (k : Int) else G 36 j)
            by_cases hjc : j = c
            · rw [hjc, u_self, if_pos rfl, hx]
            · rw [u_o (Or.inr hjc), if_neg hjc, o 36 j (Or.inr (by omega))]
          have sb := sumN_b (g := fun i => pF C d (c + 1) (up1 (G 36) c (loP C (G 36) c c + (i : Int)))) (B := ((10 ^ d : Nat) : Int)) k (fun i _ => pF_b d _ _)
          have pb := pF_b (C := C) d (c + 1) (up1 (G 36) c (loP C (G 36) c c + (k : Int)))
          have sb2 : (k : Int) * ((10 ^ d : Nat) : Int) ≤ 10 * 1000 := by
            have : k * 10 ^ d ≤ 10 * 1000 := Nat.mul_le_mul (by omega) p4
            rw [← Int.natCast_mul]
            omega
          have p4' : ((10 ^ d : Nat) : Int) ≤ 1000 := by omega
          have hs : sumN (k + 1) (fun i => pF C d (c + 1) (up1 (G 36) c (loP C (G 36) c c + (i : Int)))) = sumN k (fun i => pF C d (c + 1) (up1 (G 36) c (loP C (G 36) c c + (i : Int)))) + pF C d (c + 1) (up1 (G 36) c (loP C (G 36) c c + (k : Int))) := rfl
          refine ⟨G'', e.trans ?_, fun a q h => ?_⟩
          · rw [hs]
            generalize sumN k (fun i => pF C d (c + 1) (up1 (G 36) c (loP C (G 36) c c + (i : Int)))) = S at sb
            rw [l_X_pointsFrom3_100 hw _ 32 36 6 _ _ _ _ _ zn32 (k_36 hw), if_neg (by omega), mj_gd_pos ⟨by omega, by omega⟩, Int.toNat_natCast, hx, zs_uo (by decide) (by decide), wS (by omega), e2, mj_bi_some, ep, ← hx, w_id (a := loP C (G 36) c c + (k : Int) + 1) (by omega), show loP C (G 36) c c + ((k + 1 : Nat) : Int) = loP C (G 36) c c + (k : Int) + 1 by omega]
            generalize pF C d (c + 1) (up1 (G 36) c (loP C (G 36) c c + (k : Int))) = Q at pb
            rw [w_id (a := S + Q) (by omega)]
          · rw [o2 a q (by omega), u_o (by omega)]
            exact o a q h
      obtain ⟨G', e, o⟩ := key _ (Nat.le_refl _)
      refine ⟨G', ?_, o⟩
      rw [e0, e, l_X_pointsFrom3_100 hw _ 32 36 6 _ _ _ _ _ zn32 (k_36 hw), if_pos (by omega), hd]
      rfl
theorem X_pf4 (hw : wk sw w) {n c : Nat} (C : Mt) (v : Int) (h1 : 1 ≤ c) (hcn : c ≤ n) (hn : n ≤ 5) (hl : n - c ≤ 4) (hC : NC n C) (G : mj_F) (ht : ∀ k, k < c → 0 ≤ G 36 k ∧ G 36 k ≤ 9) : ∃ G', mj_call yX_pointsFrom4 w (zs 32 G (n : Int) v C) [.inr (.inl 32), .inr (.inl 36), .inl (c : Int)] = some (w, zs 32 G' (n : Int) v C, some (.inl (pF C (n - c) c (G 36)))) ∧ ∀ a q, a ≠ 36 ∨ q < c → G' a q = G a q := by
  by_cases hc : c = n
  · subst hc
    refine ⟨G, ?_, fun _ _ _ => rfl⟩
    rw [c_X_pointsFrom4 hw _ 32 36 6 _ zn32 (k_36 hw), zs_n, if_neg (by omega), Nat.sub_self]
    rfl
  · obtain ⟨d, hd⟩ : ∃ d, n - c = d + 1 := ⟨n - c - 1, by omega⟩
    have z36 : ∀ (G : mj_F) (k : Nat), zs 32 G (n : Int) v C 36 k = G 36 k := fun G k => zs_o (by decide) (by decide)
    have e0 : mj_call yX_pointsFrom4 w (zs 32 G (n : Int) v C) [.inr (.inl 32), .inr (.inl 36), .inl (c : Int)] = mj_run yX_pointsFrom4 w (zs 32 G (n : Int) v C) 19 [.inr (.inl 32), .inr (.inl 36), .inl (c : Int), .inl (loP C (G 36) c c), .inl (hiP C (G 36) c c), .inl (c : Int), .inr (.inr (.inr 0))] [] := by
      rw [c_X_pointsFrom4 hw _ 32 36 6 _ zn32 (k_36 hw), zs_n, if_pos (by omega)]
      exact loop_st (fun j => mj_run yX_pointsFrom4 w (zs 32 G (n : Int) v C) 19 [.inr (.inl 32), .inr (.inl 36), .inl (c : Int), .inl (loP C (G 36) c j), .inl (hiP C (G 36) c j), .inl (j : Int), .inr (.inr (.inr 0))] []) (Nat.zero_le c) (fun j _ hj => by
        have a1 := hC j c (by omega) (by omega)
        have a2 := hC c j (by omega) (by omega)
        have a3 := ht j hj
        rw [l_X_pointsFrom4_19 hw _ 32 36 6 _ _ _ _ zn32 (k_36 hw), if_neg (by omega), mj_gd_pos ⟨by omega, by omega⟩, Z_cell hw zn32 G _ v C (by omega) (by omega), mj_bi_some, c_X_numberOf hw, mj_bi_some, mj_gd_pos ⟨by omega, by omega⟩, Z_cell hw zn32 G _ v C (by omega) (by omega), mj_bi_some, c_X_numberOf hw, mj_bi_some, Int.toNat_natCast, z36, shr_1 (by omega), shr_1 (by omega), w_id (a := G 36 j - C j c / 2) (by omega), w_id (a := G 36 j + C c j / 2) (by omega), wS (by omega)]
        rfl)
    have lo0 := loP_0 (C := C) (t := G 36) (c := c) (m := c)
    have hi9 := hiP_9 (C := C) (t := G 36) (c := c) (m := c)
    have lob : loP C (G 36) c c ≤ 300000000 := (loP_iff c).2 ⟨by omega, fun j hj => by have := hC j c (by omega) (by omega); have := ht j hj; omega⟩
    have hib : -300000000 ≤ hiP C (G 36) c c := (hiP_iff c).2 ⟨by omega, fun j hj => by have := hC c j (by omega) (by omega); have := ht j hj; omega⟩
    rw [l_X_pointsFrom4_19 hw _ 32 36 6 _ _ _ _ zn32 (k_36 hw), if_pos (Int.le_refl _), zs_n, wN1 (by omega)] at e0
    by_cases hlast : c = n - 1
    · have hd0 : d = 0 := by omega
      subst hd0
      refine ⟨G, ?_, fun _ _ _ => rfl⟩
      rw [e0, if_neg (by omega), w_id (a := hiP C (G 36) c c - loP C (G 36) c c) (by omega), w_id (by omega), hd]
      have e1 : pF C (0 + 1) c (G 36) = ((hiP C (G 36) c c - loP C (G 36) c c + 1).toNat : Int) := by
        show sumN (hiP C (G 36) c c - loP C (G 36) c c + 1).toNat (fun _ => 1) = _
        exact sumN_1 _
      rw [e1]
      by_cases hp : 0 < hiP C (G 36) c c - loP C (G 36) c c + 1
      · rw [if_pos hp, show ((hiP C (G 36) c c - loP C (G 36) c c + 1).toNat : Int) = hiP C (G 36) c c - loP C (G 36) c c + 1 by omega]
      · rw [if_neg hp, show ((hiP C (G 36) c c - loP C (G 36) c c + 1).toNat : Int) = 0 by omega]
    · rw [if_pos (by omega)] at e0
      have hd4 : d ≤ 3 := by omega
      have p4 : 10 ^ d ≤ 1000 := Nat.pow_le_pow_right (n := 10) (by decide) hd4
      have key : ∀ k, k ≤ (hiP C (G 36) c c - loP C (G 36) c c + 1).toNat → ∃ G', mj_run yX_pointsFrom4 w (zs 32 G (n : Int) v C) 100 [.inr (.inl 32), .inr (.inl 36), .inl (c : Int), .inl (loP C (G 36) c c), .inl (hiP C (G 36) c c), .inl 0, .inl (loP C (G 36) c c)] [] = mj_run yX_pointsFrom4 w (zs 32 G' (n : Int) v C) 100 [.inr (.inl 32), .inr (.inl 36), .inl (c : Int), .inl (loP C (G 36) c c), .inl (hiP C (G 36) c c), .inl (sumN k (fun i => pF C d (c + 1) (up1 (G 36) c (loP C (G 36) c c + (i : Int))))), .inl (loP C (G 36) c c + (k : Int))] [] ∧ ∀ a q, a ≠ 36 ∨ q < c → G' a q = G a q := by
        intro k
        induction k with
        | zero =>
          intro _
          refine ⟨G, ?_, fun _ _ _ => rfl⟩
          rw [show loP C (G 36) c c + ((0 : Nat) : Int) = loP C (G 36) c c by omega]
          rfl
        | succ k ih =>
          intro hk
          obtain ⟨G', e, o⟩ := ih (by omega)
          obtain ⟨x, hx⟩ : ∃ x : Nat, loP C (G 36) c c + (k : Int) = (x : Int) := ⟨(loP C (G 36) c c + (k : Int)).toNat, by omega⟩
          have hx9 : x ≤ 9 := by omega
          have ht' : ∀ k, k < c + 1 → 0 ≤ mj_u G' 36 c (x : Int) 36 k ∧ mj_u G' 36 c (x : Int) 36 k ≤ 9 := fun k hk => by
            by_cases hkc : k = c
            · rw [hkc, u_self]; omega
            · rw [u_o (Or.inr hkc), o 36 k (Or.inr (by omega))]; exact ht k (by omega)
          obtain ⟨G'', e2, o2⟩ := X_pf3 hw C v (show 1 ≤ c + 1 by omega) (show c + 1 ≤ n by omega) hn (by omega) hC (mj_u G' 36 c (x : Int)) ht'
          have ep : pF C (n - (c + 1)) (c + 1) (mj_u G' 36 c (x : Int) 36) = pF C d (c + 1) (up1 (G 36) c (loP C (G 36) c c + (k : Int))) := by
            rw [show n - (c + 1) = d by omega]
            refine pF_c d (c + 1) _ _ (fun j hj => ?_)
            show mj_u G' 36 c (x : Int) 36 j = (if j = c then loP C (G 36) c c + (k : Int) else G 36 j)
            by_cases hjc : j = c
            · rw [hjc, u_self, if_pos rfl, hx]
            · rw [u_o (Or.inr hjc), if_neg hjc, o 36 j (Or.inr (by omega))]
          have sb := sumN_b (g := fun i => pF C d (c + 1) (up1 (G 36) c (loP C (G 36) c c + (i : Int)))) (B := ((10 ^ d : Nat) : Int)) k (fun i _ => pF_b d _ _)
          have pb := pF_b (C := C) d (c + 1) (up1 (G 36) c (loP C (G 36) c c + (k : Int)))
          have sb2 : (k : Int) * ((10 ^ d : Nat) : Int) ≤ 10 * 1000 := by
            have : k * 10 ^ d ≤ 10 * 1000 := Nat.mul_le_mul (by omega) p4
            rw [← Int.natCast_mul]
            omega
          have p4' : ((10 ^ d : Nat) : Int) ≤ 1000 := by omega
          have hs : sumN (k + 1) (fun i => pF C d (c + 1) (up1 (G 36) c (loP C (G 36) c c + (i : Int)))) = sumN k (fun i => pF C d (c + 1) (up1 (G 36) c (loP C (G 36) c c + (i : Int)))) + pF C d (c + 1) (up1 (G 36) c (loP C (G 36) c c + (k : Int))) := rfl
          refine ⟨G'', e.trans ?_, fun a q h => ?_⟩
          · rw [hs]
            generalize sumN k (fun i => pF C d (c + 1) (up1 (G 36) c (loP C (G 36) c c + (i : Int)))) = S at sb
            rw [l_X_pointsFrom4_100 hw _ 32 36 6 _ _ _ _ _ zn32 (k_36 hw), if_neg (by omega), mj_gd_pos ⟨by omega, by omega⟩, Int.toNat_natCast, hx, zs_uo (by decide) (by decide), wS (by omega), e2, mj_bi_some, ep, ← hx, w_id (a := loP C (G 36) c c + (k : Int) + 1) (by omega), show loP C (G 36) c c + ((k + 1 : Nat) : Int) = loP C (G 36) c c + (k : Int) + 1 by omega]
            generalize pF C d (c + 1) (up1 (G 36) c (loP C (G 36) c c + (k : Int))) = Q at pb
            rw [w_id (a := S + Q) (by omega)]
          · rw [o2 a q (by omega), u_o (by omega)]
            exact o a q h
      obtain ⟨G', e, o⟩ := key _ (Nat.le_refl _)
      refine ⟨G', ?_, o⟩
      rw [e0, e, l_X_pointsFrom4_100 hw _ 32 36 6 _ _ _ _ _ zn32 (k_36 hw), if_pos (by omega), hd]
      rfl
theorem X_pf5 (hw : wk sw w) {n c : Nat} (C : Mt) (v : Int) (h1 : 1 ≤ c) (hcn : c ≤ n) (hn : n ≤ 5) (hl : n - c ≤ 5) (hC : NC n C) (G : mj_F) (ht : ∀ k, k < c → 0 ≤ G 36 k ∧ G 36 k ≤ 9) : ∃ G', mj_call yX_pointsFrom5 w (zs 32 G (n : Int) v C) [.inr (.inl 32), .inr (.inl 36), .inl (c : Int)] = some (w, zs 32 G' (n : Int) v C, some (.inl (pF C (n - c) c (G 36)))) ∧ ∀ a q, a ≠ 36 ∨ q < c → G' a q = G a q := by
  by_cases hc : c = n
  · subst hc
    refine ⟨G, ?_, fun _ _ _ => rfl⟩
    rw [c_X_pointsFrom5 hw _ 32 36 6 _ zn32 (k_36 hw), zs_n, if_neg (by omega), Nat.sub_self]
    rfl
  · obtain ⟨d, hd⟩ : ∃ d, n - c = d + 1 := ⟨n - c - 1, by omega⟩
    have z36 : ∀ (G : mj_F) (k : Nat), zs 32 G (n : Int) v C 36 k = G 36 k := fun G k => zs_o (by decide) (by decide)
    have e0 : mj_call yX_pointsFrom5 w (zs 32 G (n : Int) v C) [.inr (.inl 32), .inr (.inl 36), .inl (c : Int)] = mj_run yX_pointsFrom5 w (zs 32 G (n : Int) v C) 19 [.inr (.inl 32), .inr (.inl 36), .inl (c : Int), .inl (loP C (G 36) c c), .inl (hiP C (G 36) c c), .inl (c : Int), .inr (.inr (.inr 0))] [] := by
      rw [c_X_pointsFrom5 hw _ 32 36 6 _ zn32 (k_36 hw), zs_n, if_pos (by omega)]
      exact loop_st (fun j => mj_run yX_pointsFrom5 w (zs 32 G (n : Int) v C) 19 [.inr (.inl 32), .inr (.inl 36), .inl (c : Int), .inl (loP C (G 36) c j), .inl (hiP C (G 36) c j), .inl (j : Int), .inr (.inr (.inr 0))] []) (Nat.zero_le c) (fun j _ hj => by
        have a1 := hC j c (by omega) (by omega)
        have a2 := hC c j (by omega) (by omega)
        have a3 := ht j hj
        rw [l_X_pointsFrom5_19 hw _ 32 36 6 _ _ _ _ zn32 (k_36 hw), if_neg (by omega), mj_gd_pos ⟨by omega, by omega⟩, Z_cell hw zn32 G _ v C (by omega) (by omega), mj_bi_some, c_X_numberOf hw, mj_bi_some, mj_gd_pos ⟨by omega, by omega⟩, Z_cell hw zn32 G _ v C (by omega) (by omega), mj_bi_some, c_X_numberOf hw, mj_bi_some, Int.toNat_natCast, z36, shr_1 (by omega), shr_1 (by omega), w_id (a := G 36 j - C j c / 2) (by omega), w_id (a := G 36 j + C c j / 2) (by omega), wS (by omega)]
        rfl)
    have lo0 := loP_0 (C := C) (t := G 36) (c := c) (m := c)
    have hi9 := hiP_9 (C := C) (t := G 36) (c := c) (m := c)
    have lob : loP C (G 36) c c ≤ 300000000 := (loP_iff c).2 ⟨by omega, fun j hj => by have := hC j c (by omega) (by omega); have := ht j hj; omega⟩
    have hib : -300000000 ≤ hiP C (G 36) c c := (hiP_iff c).2 ⟨by omega, fun j hj => by have := hC c j (by omega) (by omega); have := ht j hj; omega⟩
    rw [l_X_pointsFrom5_19 hw _ 32 36 6 _ _ _ _ zn32 (k_36 hw), if_pos (Int.le_refl _), zs_n, wN1 (by omega)] at e0
    by_cases hlast : c = n - 1
    · have hd0 : d = 0 := by omega
      subst hd0
      refine ⟨G, ?_, fun _ _ _ => rfl⟩
      rw [e0, if_neg (by omega), w_id (a := hiP C (G 36) c c - loP C (G 36) c c) (by omega), w_id (by omega), hd]
      have e1 : pF C (0 + 1) c (G 36) = ((hiP C (G 36) c c - loP C (G 36) c c + 1).toNat : Int) := by
        show sumN (hiP C (G 36) c c - loP C (G 36) c c + 1).toNat (fun _ => 1) = _
        exact sumN_1 _
      rw [e1]
      by_cases hp : 0 < hiP C (G 36) c c - loP C (G 36) c c + 1
      · rw [if_pos hp, show ((hiP C (G 36) c c - loP C (G 36) c c + 1).toNat : Int) = hiP C (G 36) c c - loP C (G 36) c c + 1 by omega]
      · rw [if_neg hp, show ((hiP C (G 36) c c - loP C (G 36) c c + 1).toNat : Int) = 0 by omega]
    · rw [if_pos (by omega)] at e0
      have hd4 : d ≤ 3 := by omega
      have p4 : 10 ^ d ≤ 1000 := Nat.pow_le_pow_right (n := 10) (by decide) hd4
      have key : ∀ k, k ≤ (hiP C (G 36) c c - loP C (G 36) c c + 1).toNat → ∃ G', mj_run yX_pointsFrom5 w (zs 32 G (n : Int) v C) 100 [.inr (.inl 32), .inr (.inl 36), .inl (c : Int), .inl (loP C (G 36) c c), .inl (hiP C (G 36) c c), .inl 0, .inl (loP C (G 36) c c)] [] = mj_run yX_pointsFrom5 w (zs 32 G' (n : Int) v C) 100 [.inr (.inl 32), .inr (.inl 36), .inl (c : Int), .inl (loP C (G 36) c c), .inl (hiP C (G 36) c c), .inl (sumN k (fun i => pF C d (c + 1) (up1 (G 36) c (loP C (G 36) c c + (i : Int))))), .inl (loP C (G 36) c c + (k : Int))] [] ∧ ∀ a q, a ≠ 36 ∨ q < c → G' a q = G a q := by
        intro k
        induction k with
        | zero =>
          intro _
          refine ⟨G, ?_, fun _ _ _ => rfl⟩
          rw [show loP C (G 36) c c + ((0 : Nat) : Int) = loP C (G 36) c c by omega]
          rfl
        | succ k ih =>
          intro hk
          obtain ⟨G', e, o⟩ := ih (by omega)
          obtain ⟨x, hx⟩ : ∃ x : Nat, loP C (G 36) c c + (k : Int) = (x : Int) := ⟨(loP C (G 36) c c + (k : Int)).toNat, by omega⟩
          have hx9 : x ≤ 9 := by omega
          have ht' : ∀ k, k < c + 1 → 0 ≤ mj_u G' 36 c (x : Int) 36 k ∧ mj_u G' 36 c (x : Int) 36 k ≤ 9 := fun k hk => by
            by_cases hkc : k = c
            · rw [hkc, u_self]; omega
            · rw [u_o (Or.inr hkc), o 36 k (Or.inr (by omega))]; exact ht k (by omega)
          obtain ⟨G'', e2, o2⟩ := X_pf4 hw C v (show 1 ≤ c + 1 by omega) (show c + 1 ≤ n by omega) hn (by omega) hC (mj_u G' 36 c (x : Int)) ht'
          have ep : pF C (n - (c + 1)) (c + 1) (mj_u G' 36 c (x : Int) 36) = pF C d (c + 1) (up1 (G 36) c (loP C (G 36) c c + (k : Int))) := by
            rw [show n - (c + 1) = d by omega]
            refine pF_c d (c + 1) _ _ (fun j hj => ?_)
            show mj_u G' 36 c (x : Int) 36 j = (if j = c then loP C (G 36) c c + (k : Int) else G 36 j)
            by_cases hjc : j = c
            · rw [hjc, u_self, if_pos rfl, hx]
            · rw [u_o (Or.inr hjc), if_neg hjc, o 36 j (Or.inr (by omega))]
          have sb := sumN_b (g := fun i => pF C d (c + 1) (up1 (G 36) c (loP C (G 36) c c + (i : Int)))) (B := ((10 ^ d : Nat) : Int)) k (fun i _ => pF_b d _ _)
          have pb := pF_b (C := C) d (c + 1) (up1 (G 36) c (loP C (G 36) c c + (k : Int)))
          have sb2 : (k : Int) * ((10 ^ d : Nat) : Int) ≤ 10 * 1000 := by
            have : k * 10 ^ d ≤ 10 * 1000 := Nat.mul_le_mul (by omega) p4
            rw [← Int.natCast_mul]
            omega
          have p4' : ((10 ^ d : Nat) : Int) ≤ 1000 := by omega
          have hs : sumN (k + 1) (fun i => pF C d (c + 1) (up1 (G 36) c (loP C (G 36) c c + (i : Int)))) = sumN k (fun i => pF C d (c + 1) (up1 (G 36) c (loP C (G 36) c c + (i : Int)))) + pF C d (c + 1) (up1 (G 36) c (loP C (G 36) c c + (k : Int))) := rfl
          refine ⟨G'', e.trans ?_, fun a q h => ?_⟩
          · rw [hs]
            generalize sumN k (fun i => pF C d (c + 1) (up1 (G 36) c (loP C (G 36) c c + (i : Int)))) = S at sb
            rw [l_X_pointsFrom5_100 hw _ 32 36 6 _ _ _ _ _ zn32 (k_36 hw), if_neg (by omega), mj_gd_pos ⟨by omega, by omega⟩, Int.toNat_natCast, hx, zs_uo (by decide) (by decide), wS (by omega), e2, mj_bi_some, ep, ← hx, w_id (a := loP C (G 36) c c + (k : Int) + 1) (by omega), show loP C (G 36) c c + ((k + 1 : Nat) : Int) = loP C (G 36) c c + (k : Int) + 1 by omega]
            generalize pF C d (c + 1) (up1 (G 36) c (loP C (G 36) c c + (k : Int))) = Q at pb
            rw [w_id (a := S + Q) (by omega)]
          · rw [o2 a q (by omega), u_o (by omega)]
            exact o a q h
      obtain ⟨G', e, o⟩ := key _ (Nat.le_refl _)
      refine ⟨G', ?_, o⟩
      rw [e0, e, l_X_pointsFrom5_100 hw _ 32 36 6 _ _ _ _ _ zn32 (k_36 hw), if_pos (by omega), hd]
      rfl
theorem X_whole34 (hw : wk sw w) (f : mj_F) {n m : Nat} (hn1 : 1 ≤ n) (hn : n ≤ 5) (hm : m ≤ 9) (x1 : Int) (q : Int × Mt) : mj_run yX_whole w (zs 32 f (n : Int) q.1 q.2) 34 [.inr (.inl 2), .inl x1, .inl (m : Int), .inl 1] [] = mj_run yX_whole w (zs 32 f (n : Int) (ztN n (2 * (m : Int) + 1) (n - 1) q).1 (ztN n (2 * (m : Int) + 1) (n - 1) q).2) 34 [.inr (.inl 2), .inl x1, .inl (m : Int), .inl (n : Int)] [] := by
  have h := loop_st (fun k => mj_run yX_whole w (zs 32 f (n : Int) (ztN n (2 * (m : Int) + 1) k q).1 (ztN n (2 * (m : Int) + 1) k q).2) 34 [.inr (.inl 2), .inl x1, .inl (m : Int), .inl ((k + 1 : Nat) : Int)] []) (Nat.zero_le (n - 1)) (fun k _ hk => by
    have ht := Z_tighten hw zn32 f (show n ≤ 6 by omega) (ztN n (2 * (m : Int) + 1) k q).1 (ztN n (2 * (m : Int) + 1) k q).2 (i := k + 1) (j := 0) (2 * (m : Int) + 1) (by omega) (by omega)
    rw [l_X_whole_34 hw, zs_n, if_neg (by omega), X_atMost hw, mj_bi_some, am_id (by omega), wS (by omega)]
    refine (congrArg (fun z => mj_bu z _) ht).trans ?_
    rw [mj_bu_some]
    rfl)
  rw [show n - 1 + 1 = n by omega] at h
  exact h
/-- the reference's digits -/
theorem M_whole81 (hw : wk sw w) {G0 : mj_F} {k m : Nat} (hk4 : k ≤ 4) (h2 : G0 223 2 = (k : Int)) (hm : m ≤ 9) (n v : Int) (A : Mt) (x1 x3 x4 x5 : Int) : ∀ d c x : Nat, c + d = k + 1 → 1 ≤ c → x < 100000 → ∀ G : mj_F, (∀ a q, a ≠ 253 → G a q = G0 a q) → ∃ (G' : mj_F) (y z : Int), mj_run yM_whole w (rq G n v A) 81 [.inr (.inl 223), .inl x1, .inl (m : Int), .inl x3, .inl x4, .inl x5, .inl (x : Int), .inl (c : Int)] [] = mj_run yM_whole w (rq G' n v A) 81 [.inr (.inl 223), .inl x1, .inl (m : Int), .inl x3, .inl x4, .inl x5, .inl y, .inl ((k + 1 : Nat) : Int)] [] ∧ (∀ a q, a ≠ 253 → G' a q = G0 a q) ∧ G' 253 = dgT m d c x (G 253) := by
  intro d
  induction d with
  | zero =>
    intro c x hc h1 hx G hG
    have : c = k + 1 := by omega
    subst this
    exact ⟨G, _, 0, rfl, hG, rfl⟩
  | succ d ih =>
    intro c x hc h1 hx G hG
    have hdiv : x / (m + 1) ≤ x := Nat.div_le_self _ _
    obtain ⟨G', y, z, e, o, dd⟩ := ih (c + 1) (x / (m + 1)) (by omega) (by omega) (by omega) (mj_u G 253 c ((x % (m + 1) : Nat) : Int)) (fun a q h => by rw [u_o (Or.inl h)]; exact hG a q h)
    refine ⟨G', y, z, ?_, o, ?_⟩
    · have h223 : rq G n v A 223 2 = (k : Int) := by rw [rq_f (by decide) (by decide), hG _ _ (by decide)]; exact h2
      rw [l_M_whole_81 hw, h223, if_neg (by omega), wS (by omega), mj_gd_pos (by omega), mj_gd_pos ⟨by omega, by omega⟩, mj_gd_pos (by omega), Int.toNat_natCast, rem_N hx (by omega) (by omega), div_N hx (by omega) (by omega), rq_u (by decide) (by decide), wS (by omega)]
      exact e
    · rw [dd]
      show dgT m d (c + 1) (x / (m + 1)) (mj_u G 253 c ((x % (m + 1) : Nat) : Int) 253) = dgT m d (c + 1) (x / (m + 1)) (up1 (G 253) c ((x % (m + 1) : Nat) : Int))
      have e1 : mj_u G 253 c ((x % (m + 1) : Nat) : Int) 253 = up1 (G 253) c ((x % (m + 1) : Nat) : Int) := by
        funext j
        unfold mj_u up1
        by_cases hj : j = c
        · rw [if_pos ⟨rfl, hj⟩, if_pos hj]
        · rw [if_neg (fun z => hj z.2), if_neg hj]
      rw [e1]
theorem dgT_r {m : Nat} (hm : m ≤ 9) : ∀ d c x t, (∀ k, k < c → 0 ≤ t k ∧ t k < 2147483648) → ∀ k, k < c + d → 0 ≤ dgT m d c x t k ∧ dgT m d c x t k < 2147483648 := by
  intro d
  induction d with
  | zero => intro c x t h k hk; exact h k (by omega)
  | succ d ih =>
    intro c x t h k hk
    refine ih (c + 1) _ _ (fun k hk => ?_) k (by omega)
    have hmod : x % (m + 1) < m + 1 := Nat.mod_lt _ (by omega)
    show 0 ≤ (if k = c then ((x % (m + 1) : Nat) : Int) else t k) ∧ (if k = c then ((x % (m + 1) : Nat) : Int) else t k) < 2147483648
    by_cases hkc : k = c
    · rw [if_pos hkc]; omega
    · rw [if_neg hkc]; exact h k (by omega)
theorem dgT_hi {m : Nat} : ∀ d c x t s, (∀ k, k < c → t k = s k) → ∀ k, k < c + d → dgT m d c x t k = dgT m d c x s k := by
  intro d
  induction d with
  | zero => intro c x t s h k hk; exact h k (by omega)
  | succ d ih =>
    intro c x t s h k hk
    refine ih (c + 1) _ _ _ (fun j hj => ?_) k (by omega)
    show (if j = c then _ else t j) = (if j = c then _ else s j)
    by_cases hjc : j = c
    · rw [if_pos hjc, if_pos hjc]
    · rw [if_neg hjc, if_neg hjc]; exact h j (by omega)
theorem dgT_0 {m : Nat} : ∀ d c x t, 1 ≤ c → dgT m d c x t 0 = t 0 := by
  intro d
  induction d with
  | zero => exact fun _ _ _ _ => rfl
  | succ d ih =>
    intro c x t h
    show dgT m d (c + 1) (x / (m + 1)) (up1 t c _) 0 = t 0
    rw [ih (c + 1) _ _ (by omega)]
    exact if_neg (by omega)
/-- a point kept, as 0 or 1 -/
noncomputable def hPt (n : Nat) (v : Int) (A : Mt) (t : Nat → Int) : Int := if v = 0 ∧ any n (fun i => any n (htB t 1 A i)) = false then 1 else 0
theorem hPt_c {n : Nat} {v : Int} {A : Mt} {t s : Nat → Int} (h : ∀ k, k < n → t k = s k) : hPt n v A t = hPt n v A s := by
  unfold hPt
  have e : any n (fun i => any n (htB t 1 A i)) = any n (fun i => any n (htB s 1 A i)) := any_congr (fun i hi => any_congr (fun j hj => by unfold htB; rw [h i hi, h j hj]))
  rw [e]
theorem M_whole68 (hw : wk sw w) {G0 : mj_F} {k m : Nat} (hk4 : k ≤ 4) (h2 : G0 223 2 = (k : Int)) (hm : m ≤ 9) (v : Int) (A : Mt) (hA : v = 0 → NI (k + 1) A) (x1 : Int) (t0 : Nat → Int) (ht0 : t0 0 = 0) : ∀ x, x ≤ (m + 1) ^ k → ∀ G : mj_F, (∀ a q, a ≠ 253 → G a q = G0 a q) → G 253 0 = 0 → ∃ (G' : mj_F) (u u' : mj_V), mj_run yM_whole w (rq G ((k + 1 : Nat) : Int) v A) 68 [.inr (.inl 223), .inl x1, .inl (m : Int), .inl (((m + 1) ^ k : Nat) : Int), .inl 0, .inl 0, .inr (.inr (.inr 0)), .inr (.inr (.inr 0))] [] = mj_run yM_whole w (rq G' ((k + 1 : Nat) : Int) v A) 68 [.inr (.inl 223), .inl x1, .inl (m : Int), .inl (((m + 1) ^ k : Nat) : Int), .inl (sumN x (fun y => hPt (k + 1) v A (dgT m k 1 y t0))), .inl (x : Int), u, u'] [] ∧ (∀ a q, a ≠ 253 → G' a q = G0 a q) ∧ G' 253 0 = 0 := by
  have hp : (m + 1) ^ k ≤ 10000 := Nat.le_trans (Nat.pow_le_pow_left (show m + 1 ≤ 10 by omega) k) (Nat.pow_le_pow_right (n := 10) (by decide) hk4)
  intro x
  induction x with
  | zero => intro _ G hG h0; exact ⟨G, _, _, rfl, hG, h0⟩
  | succ x ih =>
    intro hx G hG h0
    obtain ⟨G1, u, u', e, o, z0⟩ := ih (by omega) G hG h0
    have hs : sumN (x + 1) (fun y => hPt (k + 1) v A (dgT m k 1 y t0)) = sumN x (fun y => hPt (k + 1) v A (dgT m k 1 y t0)) + hPt (k + 1) v A (dgT m k 1 x t0) := rfl
    have sb := sumN_b (g := fun y => hPt (k + 1) v A (dgT m k 1 y t0)) (B := 1) x (fun i _ => by unfold hPt; split <;> omega)
    rw [hs]
    generalize sumN x (fun y => hPt (k + 1) v A (dgT m k 1 y t0)) = S at sb e
    obtain ⟨G2, y, z, e2, o2, dd⟩ := M_whole81 hw hk4 h2 hm ((k + 1 : Nat) : Int) v A x1 (((m + 1) ^ k : Nat) : Int) S (x : Int) k 1 x (by omega) (by omega) (by omega) G1 o
    have g2r : ∀ j, j < k + 1 → 0 ≤ G2 253 j ∧ G2 253 j < 2147483648 := fun j hj => by rw [dd]; exact dgT_r hm k 1 x _ (fun i hi => by rw [show i = 0 by omega, z0]; omega) j (by omega)
    have hT := R_hasTimes hw G2 (show k + 1 ≤ 5 by omega) v A (Or.inl rfl) hA (fun i hi => g2r i hi)
    have ev : (if v = 0 ∧ any (k + 1) (fun i => any (k + 1) (htB (G2 253) 1 A i)) = false then (1 : Int) else 0) = hPt (k + 1) v A (dgT m k 1 x t0) := by
      show hPt (k + 1) v A (G2 253) = _
      rw [dd]
      exact hPt_c (fun j hj => dgT_hi k 1 x _ _ (fun i hi => by rw [show i = 0 by omega, z0, ht0]) j (by omega))
    rw [ev] at hT
    have h223 : rq G2 ((k + 1 : Nat) : Int) v A 223 2 = (k : Int) := by rw [rq_f (by decide) (by decide), o2 _ _ (by decide)]; exact h2
    refine ⟨G2, .inl y, .inl ((k + 1 : Nat) : Int), e.trans ?_, o2, by rw [dd, dgT_0 k 1 x _ (by omega)]; exact z0⟩
    have sb' : S ≤ (x : Int) := by have := sb.2; rw [Int.mul_one] at this; exact this
    rw [l_M_whole_68 hw, if_neg (by omega)]
    refine e2.trans ?_
    rw [l_M_whole_81 hw, h223, if_pos (by omega), hT, mj_bi_some]
    have hq : hPt (k + 1) v A (dgT m k 1 x t0) = 0 ∨ hPt (k + 1) v A (dgT m k 1 x t0) = 1 := by unfold hPt; exact i01g
    rcases hq with hq | hq
    · rw [if_pos hq, hq, w_id (a := S + 0) (by omega), wS (by omega)]
    · rw [if_neg (by rw [hq]; decide), hq, w_id (a := S + 1) (by omega), wS (by omega)]
theorem M_whole34 (hw : wk sw w) (F : mj_F) {k m : Nat} (hk4 : k ≤ 4) (h2 : F 223 2 = (k : Int)) (hm : m ≤ 9) (x1 : Int) : mj_run yM_whole w F 34 [.inr (.inl 223), .inl x1, .inl (m : Int), .inl 1, .inl 0, .inr (.inr (.inr 0)), .inr (.inr (.inr 0)), .inr (.inr (.inr 0))] [] = mj_run yM_whole w (mj_u F 253 0 0) 68 [.inr (.inl 223), .inl x1, .inl (m : Int), .inl (((m + 1) ^ k : Nat) : Int), .inl 0, .inl 0, .inr (.inr (.inr 0)), .inr (.inr (.inr 0))] [] := by
  have h := loop_st (fun j => mj_run yM_whole w F 34 [.inr (.inl 223), .inl x1, .inl (m : Int), .inl (((m + 1) ^ j : Nat) : Int), .inl (j : Int), .inr (.inr (.inr 0)), .inr (.inr (.inr 0)), .inr (.inr (.inr 0))] []) (Nat.zero_le k) (fun j _ hj => by
    have hp : (m + 1) ^ j ≤ 10000 := Nat.le_trans (Nat.pow_le_pow_left (show m + 1 ≤ 10 by omega) j) (Nat.pow_le_pow_right (n := 10) (by decide) (show j ≤ 4 by omega))
    have hmul : (m + 1) ^ j * (m + 1) ≤ 10000 * 10 := Nat.mul_le_mul hp (by omega)
    have e : mj_w ((((m + 1) ^ j : Nat) : Int) * ((m + 1 : Nat) : Int)) = (((m + 1) ^ (j + 1) : Nat) : Int) := by
      rw [Nat.pow_succ, ← Int.natCast_mul]
      exact w_id (by omega)
    rw [l_M_whole_34 hw, h2, if_neg (by omega), wS (by omega), wS (by omega), e])
  refine h.trans ?_
  rw [l_M_whole_34 hw, h2, if_pos (by omega)]
  rfl
theorem ok_whole (hw : wk sw w) {f : mj_F} (r : RR sw f) (x1 x2 : Int) : Ok sw w f yX_whole yM_whole [.inl x1, .inl x2] := by
  obtain ⟨c, np, ne, st, N, L, nx, d, tp, ed, r⟩ := r
  obtain ⟨⟨hc4, hn8, he16, _, _⟩, ⟨_, xc, mc, xp, mp, xe, me, xs, ms⟩, hL, hE, h0, hg⟩ := r.1
  have xn := r.2.2.1.2.1
  have mn := r.2.2.1.2.2.1
  have hN := r.2.2.1.1
  have mc' : mj_u f 223 0 0 223 2 = (c : Int) := mc
  have mp' : mj_u f 223 0 0 223 3 = (np : Int) := mp
  have me' : mj_u f 223 0 0 223 4 = (ne : Int) := me
  have mn' : mj_u f 223 0 0 223 23 = (N : Int) := mn
  by_cases hV : (0 ≤ x1 ∧ x1 < 4) ∧ (0 ≤ x2 ∧ x2 ≤ 9)
  · obtain ⟨t, rfl⟩ : ∃ t : Nat, x1 = (t : Int) := ⟨x1.toNat, by omega⟩
    obtain ⟨m, rfl⟩ : ∃ m : Nat, x2 = (m : Int) := ⟨x2.toNat, by omega⟩
    have ht : t < 4 := by omega
    have hm9 : m ≤ 9 := by omega
    obtain ⟨q1, hq1⟩ : ∃ q1 : Int × Mt, q1 = ztN (c + 1) (2 * (m : Int) + 1) (c + 1 - 1) (f (215 + 2 * t) 2, gm (216 + 2 * t) 6 f) := ⟨_, rfl⟩
    obtain ⟨C2, hC2⟩ : ∃ C2 : Mt, C2 = zm 36 (fun i j => whB (q1.2 i j)) q1.2 := ⟨_, rfl⟩
    obtain ⟨q2, hq2⟩ : ∃ q2 : Int × Mt, q2 = zcl (c + 1) q1.1 C2 := ⟨_, rfl⟩
    have eX0 : mj_call yX_whole w f [.inr (.inl 2), .inl (t : Int), .inl (m : Int)] = if q2.1 = 0 then mj_bi (mj_call yX_pointsFrom5 w (mj_u (zs 32 f ((c + 1 : Nat) : Int) q2.1 q2.2) 36 0 0) [.inr (.inl 32), .inr (.inl 36), .inl 1]) (fun f7 v8 => some (w, f7, some (.inl v8))) else some (w, zs 32 f ((c + 1 : Nat) : Int) q2.1 q2.2, some (.inl 0)) := by
      simp only [c_X_whole hw, X_isTable hw, mj_bi_some, i01]
      rw [if_neg (by omega), if_neg (by omega), if_pos (by omega), mj_gd_pos ⟨by omega, by omega⟩, Int.toNat_natCast, bec hw r ht, mj_bu_some]
      refine (X_whole34 hw f (by omega) (by omega) hm9 (t : Int) (f (215 + 2 * t) 2, gm (216 + 2 * t) 6 f)).trans ?_
      rw [← hq1, l_X_whole_34 hw, zs_n, if_pos (Int.le_refl _), Z_keepWhole hw zn32 f (by omega), mj_bu_some, ← hC2, ← hq2, zs_v]
      rfl
    -- the class's end
    have hX : ∃ G' : mj_F, (∀ a q, a ≠ 36 → G' a q = f a q) ∧ (NC (c + 1) q2.2 ∨ ¬ q2.1 = 0 → mj_call yX_whole w f [.inr (.inl 2), .inl (t : Int), .inl (m : Int)] = some (w, zs 32 G' ((c + 1 : Nat) : Int) q2.1 q2.2, some (.inl (if q2.1 = 0 then pF q2.2 c 1 (fun _ => 0) else 0)))) := by
      by_cases h0 : q2.1 = 0
      · by_cases hnc : NC (c + 1) q2.2
        · obtain ⟨G', e, o⟩ := X_pf5 hw q2.2 q2.1 (Nat.le_refl 1) (show 1 ≤ c + 1 by omega) (by omega) (by omega) hnc (mj_u f 36 0 0) (fun k hk => by rw [show k = 0 by omega, u_self]; omega)
          refine ⟨G', fun a q h => ?_, fun _ => ?_⟩
          · rw [o a q (Or.inl h), u_o (Or.inl h)]
          · have ep : pF q2.2 (c + 1 - 1) 1 (mj_u f 36 0 0 36) = pF q2.2 c 1 (fun _ => 0) := pF_c c 1 _ _ (fun k hk => by rw [show k = 0 by omega]; exact u_self)
            rw [ep] at e
            rw [eX0, if_pos h0, if_pos h0, zs_uo (by decide) (by decide)]
            refine (congrArg (fun z => mj_bi z _) e).trans ?_
            rw [mj_bi_some]
        · exact ⟨f, fun _ _ _ => rfl, fun h => h.elim (fun z => absurd z hnc) (fun z => absurd h0 z)⟩
      · exact ⟨f, fun _ _ _ => rfl, fun _ => by rw [eX0, if_neg h0, if_neg h0]⟩
    obtain ⟨G', oG, eX⟩ := hX
    have cF : Cor sw f (zs 32 G' ((c + 1 : Nat) : Int) q2.1 q2.2) := Cor_t (Cor_a (fun a q h => oG a q (by omega))) (Cor_zs (Or.inl rfl))
    obtain ⟨F, hF⟩ : ∃ F, F = zs 32 G' ((c + 1 : Nat) : Int) q2.1 q2.2 := ⟨_, rfl⟩
    rw [← hF] at eX cF
    have RG := RX_c (Cor_t cF Cor_0) r
    have hG : Cor sw f (mj_u F 223 0 0) := Cor_t cF Cor_0
    obtain ⟨H, eH⟩ : ∃ H, H = mj_u F 223 0 0 := ⟨_, rfl⟩
    rw [← eH] at RG hG
    obtain ⟨r', l1, l2⟩ := loadT2 hw r.2.1 RG.1 (hG.1 234 (cA_m (by omega))) ht
    have hNI : r'.1 = 0 → NI (c + 1) r'.2 := fun h0 => by
      rcases l2 with ⟨_, b⟩ | ⟨_, _, _, _, _, _, _, b⟩
      · rw [h0] at b; exact absurd b (by decide)
      · exact b
    have mcH : H 223 2 = (c : Int) := RG.1.2.1.2.2.1
    obtain ⟨G1, u, u', e68, o68, _⟩ := M_whole68 hw (G0 := mj_u H 253 0 0) hc4 (by rw [u_o (Or.inl (by decide))]; exact mcH) hm9 r'.1 r'.2 hNI (t : Int) (fun _ => 0) rfl ((m + 1) ^ c) (Nat.le_refl _) (mj_u H 253 0 0) (fun a q h => rfl) u_self
    have hmc : rq H ((c + 1 : Nat) : Int) r'.1 r'.2 223 2 = (c : Int) := by rw [rq_f (by decide) (by decide)]; exact mcH
    have eM : mj_call yM_whole w F [.inr (.inl 223), .inl (t : Int), .inl (m : Int)] = some (w, rq G1 ((c + 1 : Nat) : Int) r'.1 r'.2, some (.inl (sR (hPt (c + 1) r'.1 r'.2) m c 1 (fun _ => 0)))) := by
      rw [c_M_whole hw, ← eH]
      simp only [M_isTable hw, M_isIn hw, mj_bi_some, i01]
      rw [if_neg (by omega), if_pos (by omega), l1, mj_bu_some, M_whole34 hw _ hc4 hmc hm9, rq_u (by decide) (by decide), e68, l_M_whole_68 hw, if_pos (Int.le_refl _), dg_sum]
    have cE : Cor sw F (rq G1 ((c + 1 : Nat) : Int) r'.1 r'.2) := Cor_t (eH ▸ Cor_0) (Cor_t (Cor_a (fun a q h => by rw [o68 a q (by omega), u_o (Or.inl (by omega))])) Cor_rq)
    by_cases h0 : f (215 + 2 * t) 2 = 0
    · have l3 := TS_00 l2 h0
      have hr0 : r'.1 = 0 := (TS_01 l2).2.2.symm.trans h0
      have hP : ∀ s, (Bl (c + 1) (ptT s) (rT r'.2) → hPt (c + 1) 0 r'.2 s = 1) ∧ (¬ Bl (c + 1) (ptT s) (rT r'.2) → hPt (c + 1) 0 r'.2 s = 0) := by
        intro s
        have hc : ∀ i j, i < c + 1 → j < c + 1 → (htB s 1 r'.2 i j = false ↔ ble (ptT s i j) (rT r'.2 i j)) := by
          intro i j hi hj
          show _ ↔ ble (some (2 * (s i - s j) + 1)) (rv (r'.2 i j))
          unfold htB
          rw [decide_eq_false_iff_not]
          by_cases hlt : r'.2 i j < 1000000
          · rw [rv_s hlt]
            show _ ↔ 2 * (s i - s j) + 1 ≤ r'.2 i j
            omega
          · rw [rv_n (by omega)]
            exact ⟨fun _ => trivial, fun _ z => hlt z.1⟩
        have hall : any (c + 1) (fun i => any (c + 1) (htB s 1 r'.2 i)) = false ↔ Bl (c + 1) (ptT s) (rT r'.2) := by
          constructor
          · intro ha i j hi hj
            refine (hc i j hi hj).1 (Bool.eq_false_iff.mpr (fun hb => ?_))
            have : any (c + 1) (fun i => any (c + 1) (htB s 1 r'.2 i)) = true := any_iff.mpr ⟨i, hi, any_iff.mpr ⟨j, hj, hb⟩⟩
            rw [ha] at this
            cases this
          · intro hB
            refine Bool.eq_false_iff.mpr (fun ha => ?_)
            obtain ⟨i, hi, hi2⟩ := any_iff.mp ha
            obtain ⟨j, hj, hj2⟩ := any_iff.mp hi2
            rw [(hc i j hi hj).2 (hB i j hi hj)] at hj2
            cases hj2
        unfold hPt
        exact ⟨fun hB => if_pos ⟨rfl, hall.2 hB⟩, fun hB => if_neg (fun z => hB (hall.1 z.2))⟩
      rw [h0] at hq1
      have pe := points_eq (n := c + 1) (by omega) (by omega) hm9 l3 hP (C2 := C2) (fun i j hi hj => by rw [hC2, zm_in (by omega) (by omega), hq1]) (fun _ => 0) rfl
      rw [← hq1, ← hq2, show c + 1 - 1 = c by omega] at pe
      have eX' := eX (by
        by_cases z : q2.1 = 0
        · exact Or.inl (pe.2 z)
        · exact Or.inr z)
      rw [← pe.1] at eX'
      rw [hr0] at eM
      exact Ok_i ⟨c, np, ne, st, N, L, nx, d, tp, ed, r⟩ eX' cF eM (hr0 ▸ cE)
    · have h1 : f (215 + 2 * t) 2 = 1 := by
        rcases (TS_01 (r.2.1 t ht).2).1 with h | h
        · exact absurd h h0
        · exact h
      have hr1 : r'.1 = 1 := (TS_01 l2).2.2.symm.trans h1
      have q11 : q1.1 = 1 := by rw [hq1]; exact ztN_v h1 _
      have q21 : q2.1 = 1 := by rw [hq2]; unfold zcl; rw [if_pos (by rw [q11]; decide)]
      have eX' := eX (Or.inr (by rw [q21]; decide))
      rw [if_neg (by rw [q21]; decide)] at eX'
      have hz : ∀ d k s, sR (hPt (c + 1) r'.1 r'.2) m d k s = 0 := by
        intro d
        induction d with
        | zero => intro k s; show hPt (c + 1) r'.1 r'.2 s = 0; unfold hPt; rw [if_neg (fun z => by have := z.1; rw [hr1] at this; exact absurd this (by decide))]
        | succ d ih => intro k s; exact sumN_z (fun v _ => ih _ _)
      rw [hz] at eM
      exact Ok_i ⟨c, np, ne, st, N, L, nx, d, tp, ed, r⟩ eX' cF eM cE
  · refine Ok_i ⟨c, np, ne, st, N, L, nx, d, tp, ed, r⟩ (F1 := f) (F3 := mj_u f 223 0 0) (v := -1) ?_ (Cor_r _ _) ?_ Cor_0
    · simp only [c_X_whole hw, X_isTable hw, mj_bi_some, i01]
      repeat' split
      all_goals first | rfl | (exfalso; omega)
    · simp only [c_M_whole hw, M_isTable hw, M_isIn hw, mj_bi_some, i01]
      repeat' split
      all_goals first | rfl | (exfalso; omega)
end WH
