/-! Zones: taken over, laid, beside one another, searched. -/
def any (n : Nat) (g : Nat → Bool) : Bool := match n with
  | 0 => false
  | n + 1 => any n g || g n
theorem any_iff {n : Nat} {g : Nat → Bool} : any n g = true ↔ ∃ i, i < n ∧ g i = true := by
  induction n with
  | zero => exact ⟨fun h => (by cases h), fun h => absurd h.choose_spec.1 (Nat.not_lt_zero _)⟩
  | succ n ih =>
    unfold any
    rw [Bool.or_eq_true, ih]
    constructor
    · rintro (⟨i, h1, h2⟩ | h)
      · exact ⟨i, by omega, h2⟩
      · exact ⟨n, by omega, h⟩
    · rintro ⟨i, h1, h2⟩
      by_cases h : i = n
      · exact Or.inr (h ▸ h2)
      · exact Or.inl ⟨i, by omega, h2⟩
theorem loop_any {γ β : Type} (R : Nat → γ → β) (hit : β) (g : Nat → Bool) (n : Nat) (h1 : ∀ i u, i < n → g i = true → R i u = hit) (h2 : ∀ i u, i < n → g i = false → ∃ u', R i u = R (i + 1) u') (u : γ) : (any n g = true ∧ R 0 u = hit) ∨ (any n g = false ∧ ∃ u', R 0 u = R n u') := by
  induction n with
  | zero => exact Or.inr ⟨rfl, u, rfl⟩
  | succ n ih =>
    rcases ih (fun i u hi => h1 i u (by omega)) (fun i u hi => h2 i u (by omega)) with ⟨a, b⟩ | ⟨a, u1, b⟩
    · exact Or.inl ⟨by unfold any; rw [a]; rfl, b⟩
    · cases hg : g n with
      | true => exact Or.inl ⟨by unfold any; rw [a, hg]; rfl, b.trans (h1 n u1 (by omega) hg)⟩
      | false =>
        obtain ⟨u2, h3⟩ := h2 n u1 (by omega) hg
        exact Or.inr ⟨by unfold any; rw [a, hg]; rfl, u2, b.trans h3⟩
theorem zz_ne {z y : Nat} (hz : zn z = true) (hy : zn y = true) (h : z ≠ y) : z + 1 ≠ y ∧ y + 1 ≠ z ∧ z + 1 ≠ y + 1 := by
  simp only [zn, Bool.or_eq_true, Bool.and_eq_true, decide_eq_true_eq] at hz hy
  omega
theorem sm_congr {a S : Nat} {f : mj_F} {A B : Mt} (h : ∀ i j, i < S → j < S → A i j = B i j) : sm a S f A = sm a S f B := by
  funext b q
  unfold sm
  split
  · next hq =>
    have hS : 0 < S := by
      rcases Nat.eq_zero_or_pos S with h0 | h0
      · rw [h0] at hq
        omega
      · exact h0
    exact h _ _ (Nat.div_lt_of_lt_mul hq.2) (Nat.mod_lt _ hS)
  · rfl
theorem zs_congr {z : Nat} {f : mj_F} {n v : Int} {A B : Mt} (h : ∀ i j, i < 6 → j < 6 → A i j = B i j) : zs z f n v A = zs z f n v B := sm_congr h
section ZZ
variable {sw : Bool} {w : mj_W}
theorem cpy_sm {F : mj_F} {a d : Nat} : mj_cpy F a (0 : Int).toNat d (0 : Int).toNat ((36 : Nat) : Int).toNat = sm d 6 F (gm a 6 F) := by
  funext b q
  unfold mj_cpy sm gm
  have e : ((36 : Nat) : Int).toNat = 36 := rfl
  have e0 : (0 : Int).toNat = 0 := rfl
  rw [e, e0]
  by_cases h : b = d ∧ q < 6 * 6
  · rw [if_pos (by omega), if_pos h, Nat.div_add_mod]
    congr 1
    omega
  · rw [if_neg (by omega), if_neg h]
theorem Z_become (hw : wk sw w) {z y : Nat} (hz : zn z = true) (hy : zn y = true) (hne : z ≠ y) (f : mj_F) (hv : f y 2 = 0 ∨ f y 2 = 1) : mj_call yZ_become w f [.inr (.inl z), .inr (.inl y)] = some (w, zs z f (f y 1) (f y 2) (gm (y + 1) 6 f), none) := by
  have h1 := zz_ne hz hy hne
  have e : mj_u f z 1 (f y 1) y 2 = f y 2 := u_o (Or.inl (Ne.symm hne))
  rw [c_Z_become hw _ z y hz hy, e, mj_gd_pos hv, mj_gd_pos (by decide), cpy_sm]
  have hg : gm (y + 1) 6 (mj_u (mj_u f z 1 (f y 1)) z 2 (f y 2)) = gm (y + 1) 6 f := by
    funext i j
    unfold gm
    rw [u_o (Or.inl h1.2.1), u_o (Or.inl h1.2.1)]
  rw [hg]
  rfl
/-- what a zone in the memory is -/
def zof (z : Nat) (f : mj_F) : Int × Int × Mt := (f z 1, f z 2, gm (z + 1) 6 f)
def rgh (b x y : Int) : Int := if 268435456 ≤ b then 268435456 else if mj_shr b 1 ≤ x then (if mj_w (-y) ≤ mj_shr b 1 then b else ls (mj_w (-y))) else 268435456
theorem Z_roughBound (hw : wk sw w) (F : mj_F) (b x y : Int) : mj_call yZ_roughBound w F [.inl b, .inl x, .inl y] = some (w, F, some (.inl (rgh b x y))) := by
  have hN : ∀ (F : mj_F) (b : Int), mj_call yX_numberOf w F [.inl b] = some (w, F, some (.inl (mj_shr b 1))) := fun F b => c_X_numberOf hw F b
  rw [c_Z_roughBound hw]
  simp only [hN, mj_bi_some, X_lessThan hw]
  unfold rgh
  split
  · rfl
  · split
    · split <;> rfl
    · rfl
/-- GREAT by the plan: of ZERO 0 -/
def gro (f : mj_F) (p i : Nat) : Int := if i = 0 then 0 else f (p + 3) (i - 1)
theorem Z_greatOf (hw : wk sw w) {p : Nat} (hp : pn p) (F : mj_F) {i : Nat} (hi : i < 5) : mj_call yZ_greatOf w F [.inr (.inl p), .inl (i : Int)] = some (w, F, some (.inl (gro F p i))) := by
  rw [c_Z_greatOf hw _ p _ hp]
  unfold gro
  by_cases h0 : i = 0
  · subst h0
    rw [if_neg (by omega), if_pos rfl]
  · have e : mj_w ((i : Int) - 1) = ((i - 1 : Nat) : Int) := by unfold mj_w; omega
    rw [if_pos (by omega), if_neg h0, e, mj_gd_pos ⟨by omega, by omega⟩, Int.toNat_natCast]
/-- ROUGH's first part: rows below k, and of row k the columns below l -/
def zrg (f : mj_F) (p n k l : Nat) (C : Mt) : Mt := fun i j => if (i < k ∧ j < n ∨ i = k ∧ j < l) ∧ i ≠ j then rgh (C i j) (gro f p i) (gro f p j) else C i j
theorem gro_zs {z p : Nat} {f : mj_F} {n v : Int} {C : Mt} (hz : zn z = true) (hp : pn p) (i : Nat) : gro (zs z f n v C) p i = gro f p i := by
  unfold gro
  rw [zs_p hz hp (by omega)]
theorem Z_roughen (hw : wk sw w) {z : Nat} (hz : zn z = true) {p : Nat} (hp : pn p) (f : mj_F) {n : Nat} (hn : n ≤ 5) (v : Int) (C : Mt) : mj_call yZ_roughen w (zs z f n v C) [.inr (.inl z), .inr (.inl p)] = if v = 0 then some (w, zs z f n (zcl n v (zrg f p n n 0 C)).1 (zcl n v (zrg f p n n 0 C)).2, none) else some (w, zs z f n v C, none) := by
  rw [c_Z_roughen hw _ z p hz hp, zs_v]
  by_cases hv : v = 0
  · rw [if_pos hv, if_pos hv]
    obtain ⟨u, h⟩ : ∃ u, mj_run yZ_roughen w (zs z f n v (zrg f p n 0 0 C)) 10 [.inr (.inl z), .inr (.inl p), .inl ((0 : Nat) : Int), .inr (.inr (.inr 0))] [] = mj_run yZ_roughen w (zs z f n v (zrg f p n n 0 C)) 10 [.inr (.inl z), .inr (.inl p), .inl (n : Int), u] [] := by
      have := loop_ex (fun k (_ : Unit) (u : mj_V) => mj_run yZ_roughen w (zs z f n v (zrg f p n k 0 C)) 10 [.inr (.inl z), .inr (.inl p), .inl (k : Int), u] []) (fun _ a => a) n (fun k _ u hk => by
        rw [l_Z_roughen_10 hw _ z p _ _ hz hp, zs_n, if_neg (by omega)]
        have h := loop_st (fun l => mj_run yZ_roughen w (zs z f n v (zrg f p n k l C)) 20 [.inr (.inl z), .inr (.inl p), .inl (k : Int), .inl (l : Int)] []) (Nat.zero_le n) (fun l _ hl => by
          rw [l_Z_roughen_20 hw _ z p _ _ hz hp, zs_n, if_neg (by omega)]
          by_cases hkl : k = l
          · rw [if_pos (by omega), wS (by omega)]
            congr 2
            funext i j
            unfold zrg
            exact ifc (by omega) rfl rfl
          · rw [if_neg (by omega), Z_cell hw hz f n v _ (by omega) (by omega), mj_bi_some, Z_greatOf hw hp _ (by omega), mj_bi_some, Z_greatOf hw hp _ (by omega), mj_bi_some, Z_roughBound hw, mj_bi_some, Z_put hw hz f n v _ _ (by omega) (by omega), mj_bu_some, wS (by omega), gro_zs hz hp, gro_zs hz hp]
            have r : zrg f p n k l C k l = C k l := by
              unfold zrg
              rw [if_neg (by omega)]
            rw [r]
            congr 2
            funext i j
            unfold um zrg
            by_cases hx : i = k ∧ j = l
            · rw [if_pos hx, if_pos (by omega), hx.1, hx.2]
            · rw [if_neg hx]
              exact ifc (by omega) rfl rfl)
        refine ⟨.inl (n : Int), h.trans ?_⟩
        rw [l_Z_roughen_20 hw _ z p _ _ hz hp, zs_n, if_pos (by omega), wS (by omega)]
        congr 2
        funext i j
        unfold zrg
        exact ifc (by omega) rfl rfl) () (.inr (.inr (.inr 0)))
      exact this
    have h0 : zrg f p n 0 0 C = C := by
      funext i j
      unfold zrg
      rw [if_neg (by omega)]
    rw [h0] at h
    refine h.trans ?_
    rw [l_Z_roughen_10 hw _ z p _ _ hz hp, zs_n, if_pos (by omega), Z_close hw hz f (by omega), mj_bu_some]
  · rw [if_neg hv, if_neg hv]
end ZZ
