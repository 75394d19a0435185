/-! The class's closing and tightening give the greatest closed table. -/
def pvC (k : Nat) (A : Mt) : Mt := fun i j => if A i j ≤ cp (A i k) (A k j) then A i j else cp (A i k) (A k j)
def NC (n : Nat) (A : Mt) : Prop := ∀ i j, i < n → j < n → -100000000 < A i j ∧ A i j ≤ 268435456 ∧ (A i j < 100000000 ∨ A i j = 268435456)
theorem NC_sml {n : Nat} {A : Mt} (h : NC n A) {i j : Nat} (hi : i < n) (hj : j < n) : sml 100000000 (cv (A i j)) := by
  intro x hx
  have := cv_i hx
  have := h i j hi hj
  omega
theorem cp_cases {a b : Int} (ha : sml 100000000 (cv a)) (hb : sml 100000000 (cv b)) : (bad (cv a) (cv b) = none ∧ cp a b = 268435456) ∨ (a < 268435456 ∧ b < 268435456 ∧ bad (cv a) (cv b) = some (pz a b) ∧ cp a b = pz a b ∧ -200000001 < pz a b ∧ pz a b < 200000000) := by
  unfold cp
  by_cases h1 : 268435456 ≤ a
  · rw [if_pos h1, cv_n h1]; exact Or.inl ⟨rfl, rfl⟩
  · rw [if_neg h1]
    have := ha a (cv_s (by omega))
    by_cases h2 : b < 268435456
    · have := hb b (cv_s h2)
      have := pz_lo a b
      rw [if_pos h2, cs_pz (by omega) (by omega), cv_s (b := a) (by omega), cv_s (b := b) h2]
      exact Or.inr ⟨by omega, h2, rfl, rfl, by omega, by omega⟩
    · rw [if_neg h2, cv_n (b := b) (by omega), bad_c]; exact Or.inl ⟨rfl, rfl⟩
theorem clj_eq {n k i : Nat} {A : Mt} (h : A i k ≤ cp (A i k) (A k k)) : ∀ m, itr m (fun j C => if C i j ≤ cp (A i k) (C k j) then C else um C i j (cp (A i k) (C k j))) A = fun x y => if x = i ∧ y < m then pvC k A x y else A x y := by
  intro m
  induction m with
  | zero =>
    funext x y
    rw [if_neg (by omega)]
    rfl
  | succ m ih =>
    show (fun C : Mt => if C i m ≤ cp (A i k) (C k m) then C else um C i m (cp (A i k) (C k m))) (itr m (fun j C => if C i j ≤ cp (A i k) (C k j) then C else um C i j (cp (A i k) (C k j))) A) = _
    rw [ih]
    have e2 : (if k = i ∧ m < m then pvC k A k m else A k m) = A k m := if_neg (by omega)
    have e3 : (if i = i ∧ m < m then pvC k A i m else A i m) = A i m := if_neg (by omega)
    show (if (if i = i ∧ m < m then pvC k A i m else A i m) ≤ cp (A i k) (if k = i ∧ m < m then pvC k A k m else A k m) then _ else um _ i m (cp (A i k) (if k = i ∧ m < m then pvC k A k m else A k m))) = _
    rw [e2, e3]
    by_cases hv : A i m ≤ cp (A i k) (A k m)
    · rw [if_pos hv]
      funext x y
      by_cases hx : x = i ∧ y = m
      · rw [if_neg (by omega), if_pos (by omega), hx.1, hx.2]
        unfold pvC
        rw [if_pos hv]
      · by_cases hy : x = i ∧ y < m
        · rw [if_pos hy, if_pos (by omega)]
        · rw [if_neg hy, if_neg (by omega)]
    · rw [if_neg hv]
      funext x y
      unfold um
      by_cases hx : x = i ∧ y = m
      · rw [if_pos hx, if_pos (by omega), hx.1, hx.2]
        unfold pvC
        rw [if_neg hv]
      · rw [if_neg hx]
        show (if x = i ∧ y < m then pvC k A x y else A x y) = _
        by_cases hy : x = i ∧ y < m
        · rw [if_pos hy, if_pos (by omega)]
        · rw [if_neg hy, if_neg (by omega)]
theorem cli_eq {n k : Nat} (hk : k < n) {A : Mt} (hn : NC n A) (hc : ∀ i, i < n → A i k ≤ cp (A i k) (A k k)) (hr : ∀ j, j < n → A k j ≤ cp (A k k) (A k j)) : ∀ m, m ≤ n → itr m (fun i C => if 268435456 ≤ C i k then C else clj n k i (C i k) C) A = fun x y => if x < m ∧ y < n then pvC k A x y else A x y := by
  intro m
  induction m with
  | zero =>
    intro _
    funext x y
    rw [if_neg (by omega)]
    rfl
  | succ m ih =>
    intro hm
    show (fun B : Mt => if 268435456 ≤ B m k then B else clj n k m (B m k) B) (itr m (fun i C => if 268435456 ≤ C i k then C else clj n k i (C i k) C) A) = _
    rw [ih (by omega)]
    have pr : ∀ j, j < n → pvC k A k j = A k j := fun j hj => by unfold pvC; rw [if_pos (hr j hj)]
    have e1 : (if m < m ∧ k < n then pvC k A m k else A m k) = A m k := if_neg (by omega)
    have e2 : ∀ y, y < n → (if k < m ∧ y < n then pvC k A k y else A k y) = A k y := fun y hy => by
      split
      · exact pr y hy
      · rfl
    have e3 : ∀ y, (if m < m ∧ y < n then pvC k A m y else A m y) = A m y := fun y => if_neg (by omega)
    show (if 268435456 ≤ (if m < m ∧ k < n then pvC k A m k else A m k) then _ else clj n k m (if m < m ∧ k < n then pvC k A m k else A m k) _) = _
    rw [e1]
    by_cases hf : 268435456 ≤ A m k
    · rw [if_pos hf]
      funext x y
      by_cases hx : x < m ∧ y < n
      · rw [if_pos hx, if_pos (by omega)]
      · rw [if_neg hx]
        by_cases hy : x < m + 1 ∧ y < n
        · rw [if_pos hy]
          have ex : x = m := by omega
          rw [ex]
          unfold pvC cp
          rw [if_pos hf, if_pos (by have := (hn m y (by omega) hy.2).2; omega)]
        · rw [if_neg hy]
    · rw [if_neg hf]
      unfold clj
      have hj := clj_eq (n := n) (k := k) (i := m) (A := fun x y => if x < m ∧ y < n then pvC k A x y else A x y) (by
        show (if m < m ∧ k < n then pvC k A m k else A m k) ≤ cp (if m < m ∧ k < n then pvC k A m k else A m k) (if k < m ∧ k < n then pvC k A k k else A k k)
        rw [e1, e2 k hk]
        exact hc m (by omega)) n
      simp only [e1] at hj
      have hj' : itr n (fun j C => if C m j ≤ cp (A m k) (C k j) then C else um C m j (cp (A m k) (C k j))) (fun x y => if x < m ∧ y < n then pvC k A x y else A x y) = fun x y => if x = m ∧ y < n then pvC k (fun x y => if x < m ∧ y < n then pvC k A x y else A x y) x y else (if x < m ∧ y < n then pvC k A x y else A x y) := hj
      rw [hj']
      funext x y
      by_cases hx : x = m ∧ y < n
      · rw [if_pos hx, if_pos (by omega), hx.1]
        show (if (if m < m ∧ y < n then pvC k A m y else A m y) ≤ cp (if m < m ∧ k < n then pvC k A m k else A m k) (if k < m ∧ y < n then pvC k A k y else A k y) then (if m < m ∧ y < n then pvC k A m y else A m y) else cp (if m < m ∧ k < n then pvC k A m k else A m k) (if k < m ∧ y < n then pvC k A k y else A k y)) = pvC k A m y
        rw [e1, e2 y hx.2, e3 y]
        rfl
      · rw [if_neg hx]
        by_cases hy : x < m ∧ y < n
        · rw [if_pos hy, if_pos (by omega)]
        · rw [if_neg hy, if_neg (by omega)]
theorem le1_cv {b : Int} (h : 1 ≤ b) : ble (some 1) (cv b) := by
  unfold cv
  split
  · exact trivial
  · exact h
theorem nle1_cv {b : Int} (h : b < 1) : ¬ ble (some 1) (cv b) := by
  rw [cv_s (by omega)]
  intro q
  have : (1 : Int) ≤ b := q
  omega
theorem cli_piv {n k : Nat} (hk : k < n) {M : Int} (hM : 0 ≤ M) (hb : bm M n ≤ 100000000) {A0 : Bt} {A : Mt} (hi : Iv n M k A0 (cT A)) (hn : NC n A) (hkk : 1 ≤ A k k) : Iv n M (k + 1) A0 (cT (cli n k A)) ∧ NC n (cli n k A) := by
  have hP := Iv_S hk hi (le1_cv hkk)
  have hc : ∀ i, i < n → A i k ≤ cp (A i k) (A k k) := by
    intro i hi'
    rcases cp_cases (NC_sml hn hi' hk) (NC_sml hn hk hk) with ⟨_, q⟩ | ⟨_, _, _, q, _⟩
    · rw [q]; have := (hn i k hi' hk).2; omega
    · rw [q]; unfold pz; omega
  have hr : ∀ j, j < n → A k j ≤ cp (A k k) (A k j) := by
    intro j hj
    rcases cp_cases (NC_sml hn hk hk) (NC_sml hn hk hj) with ⟨_, q⟩ | ⟨_, _, _, q, _⟩
    · rw [q]; have := (hn k j hk hj).2; omega
    · rw [q]; unfold pz; omega
  have e : cli n k A = fun x y => if x < n ∧ y < n then pvC k A x y else A x y := cli_eq hk hn hc hr n (Nat.le_refl n)
  have ep : ∀ i j, i < n → j < n → cli n k A i j = pvC k A i j := fun i j hi hj => by rw [e]; exact if_pos ⟨hi, hj⟩
  have eq : Eqn n (piv k (cT A)) (cT (cli n k A)) := by
    intro i j hi' hj
    show bmn (cv (A i j)) (bad (cv (A i k)) (cv (A k j))) = cv (cli n k A i j)
    rw [ep i j hi' hj]
    unfold pvC
    have hle := (hn i j hi' hj).2
    rcases cp_cases (NC_sml hn hi' hk) (NC_sml hn hk hj) with ⟨q1, q⟩ | ⟨q2, q3, q1, q, q4, q5⟩
    · rw [q1, q, if_pos (by omega)]
      rfl
    · rw [q1, q]
      by_cases hf : A i j < 268435456
      · rw [cv_s hf]
        show some (if pz (A i k) (A k j) < A i j then pz (A i k) (A k j) else A i j) = _
        by_cases hz : A i j ≤ pz (A i k) (A k j)
        · rw [if_pos hz, if_neg (by omega), cv_s hf]
        · rw [if_neg hz, if_pos (by omega), cv_s (by omega)]
      · rw [cv_n (by omega), if_neg (by omega), cv_s (by omega)]
        rfl
  have hI := Iv_e (by omega : k + 1 ≤ n) eq hP
  refine ⟨hI, fun i j hi' hj => ?_⟩
  have hq : cli n k A i j = 268435456 ∨ cli n k A i j < 268435456 := by
    rw [ep i j hi' hj]
    have := (hn i j hi' hj).2
    unfold pvC
    rcases cp_cases (NC_sml hn hi' hk) (NC_sml hn hk hj) with ⟨q1, q⟩ | ⟨q2, q3, q1, q, q4, q5⟩
    · rw [q]; split <;> omega
    · rw [q]; split <;> omega
  rcases hq with hq | hq
  · rw [hq]
    exact ⟨by decide, by decide, Or.inr rfl⟩
  · have := Iv_bnd hM hI hi' hj (x := cli n k A i j) (cv_s hq)
    have := bm_le hM (show k + 1 ≤ n from hk)
    exact ⟨by omega, by omega, Or.inl (by omega)⟩
theorem clr_gr {n : Nat} {M : Int} (hM : 0 ≤ M) (hb : bm M n ≤ 100000000) {A0 : Bt} (hd : ∀ i, i < n → ble (A0 i i) (some 1)) : ∀ d k C, k + d = n → Iv n M k A0 (cT C) → NC n C → ((clr n d k C).1 = 0 ∧ Vd n A0) ∨ ((clr n d k C).1 = 1 ∧ Gr n A0 (cT (clr n d k C).2) ∧ NC n (clr n d k C).2) := by
  intro d
  induction d with
  | zero =>
    intro k C hk hI hn
    have e : k = n := by omega
    subst e
    exact Or.inr ⟨rfl, Iv_end hI hd, hn⟩
  | succ d ih =>
    intro k C hk hI hn
    unfold clr
    by_cases hkk : 1 ≤ C k k
    · rw [if_pos hkk]
      obtain ⟨h1, h2⟩ := cli_piv (by omega) hM hb hI hn hkk
      exact ih (k + 1) _ (by omega) h1 h2
    · rw [if_neg hkk]
      exact Or.inl ⟨rfl, Iv_void hI (by omega : k < n) (nle1_cv (by omega))⟩
/-- what the class works on: closed, or nothing is left -/
def CS (n : Nat) (A : Bt) (q : Int × Mt) : Prop := (q.1 = 1 ∧ Vd n A) ∨ (q.1 = 0 ∧ Gr n A (cT q.2) ∧ NC n q.2)
theorem zcl_CS {n : Nat} {M : Int} (hM : 0 ≤ M) (hb : bm M n ≤ 100000000) {C : Mt} (hA : Bb n M (cT C)) (hn : NC n C) (hd : ∀ i, i < n → C i i ≤ 1) : CS n (cT C) (zcl n 0 C) := by
  unfold zcl
  rw [if_neg (fun h => h rfl)]
  have hd' : ∀ i, i < n → ble (cT C i i) (some 1) := fun i hi => by
    show ble (cv (C i i)) (some 1)
    have := hd i hi
    rw [cv_s (by omega)]
    exact this
  rcases clr_gr hM hb hd' n 0 C (by omega) (Iv_0 hA) hn with ⟨h1, h2⟩ | ⟨h1, h2, h3⟩
  · exact Or.inl ⟨by show (if (clr n n 0 C).1 = 0 then 1 else 0 : Int) = 1; rw [if_pos h1], h2⟩
  · exact Or.inr ⟨by show (if (clr n n 0 C).1 = 0 then 1 else 0 : Int) = 0; rw [if_neg (by omega)], h2, h3⟩
