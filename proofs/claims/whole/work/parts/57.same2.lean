/-! The same table: down, meet, join, narrow, rough, whole. -/
theorem cv_dnl {n : Nat} {C : Mt} {c : Nat} : cv (dnl n C c) = dnm (n - 1) (cT C) c ∧ dnl n C c ≤ 1 := by
  unfold dnl dnm
  induction n - 1 with
  | zero => exact ⟨rfl, Int.le_refl 1⟩
  | succ m ih =>
    show cv (if C (m + 1) c < itr m (fun j l => if C (j + 1) c < l then C (j + 1) c else l) 1 then C (m + 1) c else itr m (fun j l => if C (j + 1) c < l then C (j + 1) c else l) 1) = bmn (itr m (fun j l => bmn l (cT C (j + 1) c)) (some 1)) (cv (C (m + 1) c)) ∧ (if C (m + 1) c < itr m (fun j l => if C (j + 1) c < l then C (j + 1) c else l) 1 then C (m + 1) c else itr m (fun j l => if C (j + 1) c < l then C (j + 1) c else l) 1) ≤ 1
    rw [← ih.1]
    refine ⟨cv_mn (a := itr m (fun j l => if C (j + 1) c < l then C (j + 1) c else l) 1) (by have := ih.2; omega), ?_⟩
    have := ih.2
    split <;> omega
theorem TS_down {n : Nat} {M : Int} (hM : 2 ≤ M) (hb : bm M n ≤ 1000000) {q r : Int × Mt} (h : TS n M q r) : TS n (bm M n) (q.1, zdn n q.2) (rcl n (r.1, rdn n r.2)) := by
  rcases h with ⟨a, b⟩ | ⟨a, b, c1, c2, c3, c4, c5, c6⟩
  · exact Or.inl ⟨a, rcl_v b⟩
  · have hMb := bm_big (by omega : 0 ≤ M) n
    have e1 : Eqn n (dnT n (cT q.2)) (cT (zdn n q.2)) := by
      intro i j hi hj
      unfold dnT
      show _ = cv (if i = 0 ∧ 1 ≤ j ∧ j < n then dnl n q.2 j else q.2 i j)
      by_cases z : i = 0 ∧ j ≠ 0
      · rw [if_pos z, if_pos (by omega : i = 0 ∧ 1 ≤ j ∧ j < n), cv_dnl.1]
      · rw [if_neg z, if_neg (by omega : ¬ (i = 0 ∧ 1 ≤ j ∧ j < n))]
        rfl
    have e2 : Eqn n (dwT (cT q.2)) (rT (rdn n r.2)) := by
      intro i j hi hj
      unfold dwT
      show _ = rv (if i = 0 ∧ 1 ≤ j ∧ j < n then 1 else r.2 i j)
      by_cases z : i = 0 ∧ j ≠ 0
      · rw [if_pos z, if_pos (by omega : i = 0 ∧ 1 ≤ j ∧ j < n)]
        exact (rv_s (by decide)).symm
      · rw [if_neg z, if_neg (by omega : ¬ (i = 0 ∧ 1 ≤ j ∧ j < n))]
        exact c4 i j hi hj
    have hB : Bb n M (dwT (cT q.2)) := by
      intro i j x hi hj hx
      unfold dwT at hx
      split at hx
      · have := Option.some.inj hx; omega
      · exact c3 i j x hi hj hx
    have hD : ∀ x, x < n → ble (dwT (cT q.2) x x) (some 1) := by
      intro x hx
      unfold dwT
      split
      · exact ble_r _
      · exact Cl_diag c1 x hx
    have hZ : Zr n (dwT (cT q.2)) := by
      intro j hj
      unfold dwT
      split
      · exact ble_r _
      · exact c2 j hj
    have hg : Gr n (dwT (cT q.2)) (cT (zdn n q.2)) := Gr_e e1 (dnT_gr c1 c2)
    have hN : NC n (zdn n q.2) := by
      have hB2 := Gr_bb (by omega : 0 ≤ M) hB hD hg
      intro i j hi hj
      have hle : zdn n q.2 i j ≤ 268435456 := by
        show (if i = 0 ∧ 1 ≤ j ∧ j < n then dnl n q.2 j else q.2 i j) ≤ 268435456
        split
        · have := (cv_dnl (n := n) (C := q.2) (c := j)).2; omega
        · exact (c5 i j hi hj).2.1
      by_cases hf : zdn n q.2 i j < 268435456
      · have := hB2 i j _ hi hj (cv_s hf)
        exact ⟨by omega, by omega, Or.inl (by omega)⟩
      · exact ⟨by omega, by omega, Or.inr (by omega)⟩
    have hR := rcl_RS (A := rdn n r.2) (by omega : 0 ≤ M) hb (Bb_e e2 hB) (fun i j hi hj => by
      have := c6 i j hi hj
      show -1000000 < (if i = 0 ∧ 1 ≤ j ∧ j < n then 1 else r.2 i j) ∧ (if i = 0 ∧ 1 ≤ j ∧ j < n then 1 else r.2 i j) ≤ 1000000
      split <;> omega) (fun i hi => by
      have := diag_rT c1 c4 i hi
      show (if i = 0 ∧ 1 ≤ i ∧ i < n then 1 else r.2 i i) ≤ 1
      split <;> omega)
    rw [b]
    exact TS_of (by omega) (Sm_e e2) hB hD hZ (Or.inr ⟨a, hg, hN⟩ : CS n (dwT (cT q.2)) (q.1, zdn n q.2)) hR
theorem Eqn_lowR {n i j : Nat} {rel x : Int} {A B : Bt} (h : Eqn n A B) : Eqn n (lowR i j rel x A) (lowR i j rel x B) := by
  intro k l hk hl
  unfold lowR lowB
  simp only [h k l hk hl]
theorem TS_meet {n i j : Nat} (hi : i < n) (hj : j < n) {rel x : Int} (h0 : 0 ≤ rel ∧ rel ≤ 4) (hx : -100 ≤ x ∧ x ≤ 100) {M : Int} (hM : 202 ≤ M) (hb : bm M n ≤ 1000000) {q r : Int × Mt} (h : TS n M q r) (hz : n ≤ n) : TS n (bm M n) (zt n j i (loB rel x) (zt n i j (upB rel x) q.1 q.2).1 (zt n i j (upB rel x) q.1 q.2).2) (rcl n (r.1, rmt i j rel x r.2)) := by
  rcases h with ⟨a, b⟩ | ⟨a, b, c1, c2, c3, c4, c5, c6⟩
  · exact Or.inl ⟨zt_v (zt_v a), rcl_v b⟩
  · have hMb := bm_big (by omega : 0 ≤ M) n
    have hC := zt2_CS (rel := rel) (x := x) hi hj (by omega) (by omega) c3 (Cl_diag c1) (by omega) (by omega) (Or.inr ⟨a, Gr_self c1, c5⟩ : CS n (cT q.2) q)
    have e : Eqn n (lowR i j rel x (cT q.2)) (rT (rmt i j rel x r.2)) := by
      rw [rT_rmt h0 (by omega)]
      exact Eqn_lowR c4
    have hB : Bb n M (lowR i j rel x (cT q.2)) := Bb_lowR (by omega) (by omega) c3
    have hR := rcl_RS (A := rmt i j rel x r.2) (by omega : 0 ≤ M) hb (Bb_e e hB) (rmt_ni (by omega) c6) (fun i' hi' => by have := diag_rT c1 c4 i' hi'; have := rmt_le (A := r.2) (i := i) (j := j) (rel := rel) (k := x) i' i'; omega)
    rw [b]
    exact TS_of (by omega) (Sm_e e) hB (lowR_diag (Cl_diag c1)) (Zr_le (fun j' _ => lowR_le _ _ _ _ _ 0 j') c2) hC hR
theorem cv_mx {a b : Int} : cv (if a < b then b else a) = bmx (cv a) (cv b) := by
  by_cases h2 : 268435456 ≤ b
  · rw [cv_n h2]
    show _ = none
    rw [cv_n (by split <;> omega)]
  · rw [cv_s (b := b) (by omega)]
    by_cases h1 : 268435456 ≤ a
    · rw [cv_n h1, if_neg (by omega), cv_n h1]
      rfl
    · rw [cv_s (b := a) (by omega)]
      show _ = some (if a < b then b else a)
      rw [cv_s (by split <;> omega)]
theorem rv_mx {a b : Int} : rv (if a < b then b else a) = bmx (rv a) (rv b) := by
  by_cases h2 : 1000000 ≤ b
  · rw [rv_n h2]
    show _ = none
    rw [rv_n (by split <;> omega)]
  · rw [rv_s (b := b) (by omega)]
    by_cases h1 : 1000000 ≤ a
    · rw [rv_n h1, if_neg (by omega), rv_n h1]
      rfl
    · rw [rv_s (b := a) (by omega)]
      show _ = some (if a < b then b else a)
      rw [rv_s (by split <;> omega)]
theorem mxT_bb {n : Nat} {M : Int} {C D : Bt} (hc : Bb n M C) (hd : Bb n M D) : Bb n M (mxT C D) := by
  intro i j x hi hj hx
  rcases bmx_o (C i j) (D i j) with q | q
  · exact hc i j x hi hj (q.symm.trans hx)
  · exact hd i j x hi hj (q.symm.trans hx)
theorem TS_join {n : Nat} {M : Int} (hM : M ≤ 1000000) {C D A B : Mt} (h : TS n M (0, C) (0, A)) (h' : TS n M (0, D) (0, B)) : TS n M (0, mxM C D) (0, mxM A B) := by
  rcases h with ⟨a, _⟩ | ⟨_, _, c1, c2, c3, c4, c5, c6⟩
  · exact absurd (show (0 : Int) = 1 from a) (by decide)
  rcases h' with ⟨a, _⟩ | ⟨_, _, d1, d2, d3, d4, d5, d6⟩
  · exact absurd (show (0 : Int) = 1 from a) (by decide)
  refine TS_mk (T := mxT (cT C) (cT D)) hM (mxT_cl c1 d1) (mxT_zr c2 d2) (mxT_bb c3 d3) (fun i j hi hj => ?_) (fun i j hi hj => ?_) (fun i j hi hj => ?_) (fun i j hi hj => ?_)
  · exact cv_mx.symm
  · show bmx (cT C i j) (cT D i j) = rv (if A i j < B i j then B i j else A i j)
    rw [rv_mx, c4 i j hi hj, d4 i j hi hj]
    rfl
  · show (if C i j < D i j then D i j else C i j) ≤ 268435456
    have := (c5 i j hi hj).2.1
    have := (d5 i j hi hj).2.1
    split
    · exact (d5 i j hi hj).2.1
    · exact (c5 i j hi hj).2.1
  · show (if A i j < B i j then B i j else A i j) ≤ 1000000
    split
    · exact (d6 i j hi hj).2
    · exact (c6 i j hi hj).2
theorem rv_mn {a b : Int} (ha : a ≤ 1000000) : rv (if b < a then b else a) = bmn (rv a) (rv b) := by
  by_cases h2 : 1000000 ≤ b
  · rw [rv_n h2, if_neg (by omega)]
    rfl
  · rw [rv_s (b := b) (by omega)]
    by_cases h1 : 1000000 ≤ a
    · rw [rv_n h1, if_pos (by omega), rv_s (by omega)]
      rfl
    · rw [rv_s (b := a) (by omega)]
      show _ = some (if b < a then b else a)
      rw [rv_s (by split <;> omega)]
/-- closing in both of what is the same -/
theorem TS_close {n : Nat} {M : Int} (hM : 0 ≤ M) (hb : bm M n ≤ 1000000) {C A : Mt} (e : Eqn n (cT C) (rT A)) (hB : Bb n M (cT C)) (hz : Zr n (cT C)) (hc : NC n C) (ha : NI n A) (hd : ∀ i, i < n → C i i ≤ 1) (hd' : ∀ i, i < n → A i i ≤ 1) : TS n (bm M n) (zcl n 0 C) (rcl n (0, A)) := by
  have h1 := zcl_CS hM (by omega) hB hc hd
  have h2 := rcl_RS hM hb (Bb_e e hB) ha hd'
  exact TS_of hM (Sm_e e) hB (fun x hx => by
    show ble (cv (C x x)) (some 1)
    have := hd x hx
    rw [cv_s (by omega)]
    exact this) hz h1 h2
theorem diag_cT {n : Nat} {C : Mt} (hc : Cl n (cT C)) : ∀ i, i < n → C i i = 1 := fun i hi => (cv_i (hc.1 i hi)).1
theorem Bb_NC {n : Nat} {M : Int} (hM : M ≤ 100000000) {C : Mt} (hB : Bb n M (cT C)) (h : ∀ i j, i < n → j < n → C i j ≤ 268435456) : NC n C := by
  intro i j hi hj
  have := h i j hi hj
  by_cases hf : C i j < 268435456
  · have := hB i j _ hi hj (cv_s hf)
    exact ⟨by omega, by omega, Or.inl (by omega)⟩
  · exact ⟨by omega, by omega, Or.inr (by omega)⟩
theorem Bb_NI {n : Nat} {M : Int} (hM : M ≤ 1000000) {A : Mt} (hB : Bb n M (rT A)) (h : ∀ i j, i < n → j < n → A i j ≤ 1000000) : NI n A := by
  intro i j hi hj
  have := h i j hi hj
  by_cases hf : A i j < 1000000
  · have := hB i j _ hi hj (rv_s hf)
    exact ⟨by omega, by omega⟩
  · exact ⟨by omega, by omega⟩
theorem TS_narrow {n : Nat} {M : Int} (hM : 0 ≤ M) (hb : bm M n ≤ 1000000) {C D A B C' A' : Mt} (h : TS n M (0, C) (0, A)) (h' : TS n M (0, D) (0, B)) (eC : ∀ i j, i < n → j < n → C' i j = mnM C D i j) (eA : ∀ i j, i < n → j < n → A' i j = lsM A B i j) : TS n (bm M n) (zcl n 0 C') (rcl n (0, A')) := by
  rcases h with ⟨a, _⟩ | ⟨_, _, c1, c2, c3, c4, c5, c6⟩
  · exact absurd (show (0 : Int) = 1 from a) (by decide)
  rcases h' with ⟨a, _⟩ | ⟨_, _, d1, d2, d3, d4, d5, d6⟩
  · exact absurd (show (0 : Int) = 1 from a) (by decide)
  have hMb := bm_big hM n
  have c1 : Cl n (cT C) := c1
  have c2 : Zr n (cT C) := c2
  have c3 : Bb n M (cT C) := c3
  have c4 : Eqn n (cT C) (rT A) := c4
  have c5 : NC n C := c5
  have c6 : NI n A := c6
  have d1 : Cl n (cT D) := d1
  have d2 : Zr n (cT D) := d2
  have d3 : Bb n M (cT D) := d3
  have d4 : Eqn n (cT D) (rT B) := d4
  have d5 : NC n D := d5
  have d6 : NI n B := d6
  have e1 : ∀ i j, i < n → j < n → cT C' i j = bmn (cT C i j) (cT D i j) := fun i j hi hj => by
    show cv (C' i j) = _
    rw [eC i j hi hj]
    exact cv_mn (c5 i j hi hj).2.1
  have e2 : ∀ i j, i < n → j < n → rT A' i j = bmn (rT A i j) (rT B i j) := fun i j hi hj => by
    show rv (A' i j) = _
    rw [eA i j hi hj]
    exact rv_mn (c6 i j hi hj).2
  have e : Eqn n (cT C') (rT A') := fun i j hi hj => by rw [e1 i j hi hj, e2 i j hi hj, c4 i j hi hj, d4 i j hi hj]
  have hB : Bb n M (cT C') := fun i j x hi hj hx => by
    rw [e1 i j hi hj] at hx
    rcases bmn_some hx with z | z
    · exact c3 i j x hi hj z
    · exact d3 i j x hi hj z
  refine TS_close hM hb e hB (fun j hj => ?_) (Bb_NC (by omega) hB (fun i j hi hj => ?_)) (Bb_NI (by omega) (Bb_e e hB) (fun i j hi hj => ?_)) (fun i hi => ?_) (fun i hi => ?_)
  · rw [e1 0 j (by omega) hj]; exact ble_t (bmn_l _ _) (c2 j hj)
  · rw [eC i j hi hj]
    show (if D i j < C i j then D i j else C i j) ≤ _
    have := (c5 i j hi hj).2.1
    have := (d5 i j hi hj).2.1
    split
    · exact (d5 i j hi hj).2.1
    · exact (c5 i j hi hj).2.1
  · rw [eA i j hi hj]
    show (if B i j < A i j then B i j else A i j) ≤ _
    split
    · exact (d6 i j hi hj).2
    · exact (c6 i j hi hj).2
  · rw [eC i i hi hi]
    show (if D i i < C i i then D i i else C i i) ≤ 1
    have := diag_cT c1 i hi
    have := diag_cT d1 i hi
    split <;> omega
  · rw [eA i i hi hi]
    show (if B i i < A i i then B i i else A i i) ≤ 1
    have := diag_rT c1 c4 i hi
    have := diag_rT d1 d4 i hi
    split <;> omega
/-! rough -/
theorem rgh_v {b x y : Int} (hb : -100000000 < b ∧ b ≤ 268435456) (hx : 0 ≤ x ∧ x ≤ 50) (hy : 0 ≤ y ∧ y ≤ 50) : rgh b x y = if 268435456 ≤ b then 268435456 else if b / 2 ≤ x then (if -y ≤ b / 2 then b else -2 * y) else 268435456 := by
  unfold rgh
  rw [shr_1 (by omega), w_id (a := -y) (by omega), ls_id (by omega)]
  have : 2 * -y = -2 * y := by omega
  rw [this]
theorem rrb_v {b x y : Int} (hb : -1000000 < b ∧ b ≤ 1000000) (hx : 0 ≤ x ∧ x ≤ 50) (hy : 0 ≤ y ∧ y ≤ 50) : rrb b x y = if 1000000 ≤ b then b else if b / 2 ≤ x then (if -y ≤ b / 2 then b else -2 * y) else 1000000 := by
  unfold rrb
  rw [shr_1 (by omega), w_id (a := -y) (by omega), w_id (a := (-2) * y) (by omega)]
  by_cases h : b < 1000000
  · rw [if_pos h, if_neg (by omega : ¬ 1000000 ≤ b)]
  · rw [if_neg h, if_pos (by omega)]
theorem TS_rough {f : mj_F} {p n : Nat} (hg : ∀ i, i < n → gro f p i = f 233 i ∧ 0 ≤ f 233 i ∧ f 233 i ≤ 50) (h0 : f 233 0 = 0) {M : Int} (hM : M ≤ 1000000) (hb : bm 102 n ≤ 1000000) {C A : Mt} (h : TS n M (0, C) (0, A)) : TS n (bm 102 n) (zcl n 0 (zrg f p n n 0 C)) (rcl n (0, rrg f n n 0 A)) := by
  rcases h with ⟨a, _⟩ | ⟨_, _, c1, c2, c3, c4, c5, c6⟩
  · exact absurd (show (0 : Int) = 1 from a) (by decide)
  have c1 : Cl n (cT C) := c1
  have c2 : Zr n (cT C) := c2
  have c3 : Bb n M (cT C) := c3
  have c4 : Eqn n (cT C) (rT A) := c4
  have c5 : NC n C := c5
  have c6 : NI n A := c6
  have z1 : ∀ i j, i < n → j < n → zrg f p n n 0 C i j = if i = j then C i j else rgh (C i j) (f 233 i) (f 233 j) := fun i j hi hj => by
    unfold zrg
    by_cases z : i = j
    · rw [if_neg (fun q => q.2 z), if_pos z]
    · rw [if_pos ⟨Or.inl ⟨hi, hj⟩, z⟩, if_neg z, (hg i hi).1, (hg j hj).1]
  have z2 : ∀ i j, i < n → j < n → rrg f n n 0 A i j = if i = j then A i j else rrb (A i j) (f 233 i) (f 233 j) := fun i j hi hj => by
    unfold rrg
    by_cases z : i = j
    · rw [if_neg (fun q => q.2 z), if_pos z]
    · rw [if_pos ⟨Or.inl ⟨hi, hj⟩, z⟩, if_neg z]
  have e : Eqn n (cT (zrg f p n n 0 C)) (rT (rrg f n n 0 A)) := by
    intro i j hi hj
    show cv (zrg f p n n 0 C i j) = rv (rrg f n n 0 A i j)
    rw [z1 i j hi hj, z2 i j hi hj]
    by_cases z : i = j
    · rw [if_pos z, if_pos z]; exact c4 i j hi hj
    · have hi2 := (hg i hi).2
      have hj2 := (hg j hj).2
      have y1 := c5 i j hi hj
      have y2 := c6 i j hi hj
      rw [if_neg z, if_neg z, rgh_v (by omega) hi2 hj2, rrb_v y2 hi2 hj2]
      have y3 : cv (C i j) = rv (A i j) := c4 i j hi hj
      by_cases hf : 268435456 ≤ C i j
      · rw [cv_n hf] at y3
        have y4 := rv_o y3.symm
        rw [if_pos hf, if_pos y4, cv_n (by decide), rv_n y4]
      · rw [cv_s (by omega)] at y3
        have y4 := rv_i y3.symm
        rw [if_neg hf, if_neg (by omega : ¬ 1000000 ≤ A i j), y4.1]
        by_cases h3 : C i j / 2 ≤ f 233 i
        · rw [if_pos h3, if_pos h3]
          by_cases h4 : -f 233 j ≤ C i j / 2
          · rw [if_pos h4, cv_s (by omega), rv_s (by omega)]
          · rw [if_neg h4, cv_s (by omega), rv_s (by omega)]
        · rw [if_neg h3, if_neg h3, cv_n (by decide), rv_n (by decide)]
  have hB : Bb n 102 (cT (zrg f p n n 0 C)) := by
    intro i j x hi hj hx
    have hx := cv_i hx
    rw [z1 i j hi hj] at hx
    by_cases z : i = j
    · rw [if_pos z] at hx
      have := diag_cT c1 i hi
      rw [z] at this hx
      omega
    · have hi2 := (hg i hi).2
      have hj2 := (hg j hj).2
      rw [if_neg z, rgh_v (by have := c5 i j hi hj; omega) hi2 hj2] at hx
      split at hx
      · omega
      · split at hx
        · split at hx <;> omega
        · omega
  refine TS_close (by decide) hb e hB (fun j hj => ?_) (Bb_NC (by decide) hB (fun i j hi hj => ?_)) (Bb_NI (by decide) (Bb_e e hB) (fun i j hi hj => ?_)) (fun i hi => ?_) (fun i hi => ?_)
  · show ble (cv (zrg f p n n 0 C 0 j)) (some 1)
    rw [z1 0 j (by omega) hj]
    have y := c2 j hj
    have hf : C 0 j < 268435456 ∧ C 0 j ≤ 1 := by
      by_cases hf : C 0 j < 268435456
      · have y : ble (cv (C 0 j)) (some 1) := y
        rw [cv_s hf] at y
        exact ⟨hf, y⟩
      · have y : ble (cv (C 0 j)) (some 1) := y
        rw [cv_n (by omega)] at y
        exact absurd y ble_ns
    split
    · exact y
    · have hi2 := (hg 0 (by omega)).2
      have hj2 := (hg j hj).2
      rw [rgh_v (by have := c5 0 j (by omega) hj; omega) hi2 hj2, if_neg (by omega), h0, if_pos (by omega)]
      split
      · exact y
      · rw [cv_s (by omega)]
        show (-2 * f 233 j) ≤ 1
        omega
  · rw [z1 i j hi hj]
    have := (c5 i j hi hj).2.1
    split
    · exact (c5 i j hi hj).2.1
    · have hi2 := (hg i hi).2
      have hj2 := (hg j hj).2
      rw [rgh_v (by have := c5 i j hi hj; omega) hi2 hj2]
      split
      · decide
      · split
        · split <;> omega
        · decide
  · rw [z2 i j hi hj]
    split
    · exact (c6 i j hi hj).2
    · have hi2 := (hg i hi).2
      have hj2 := (hg j hj).2
      rw [rrb_v (c6 i j hi hj) hi2 hj2]
      have := c6 i j hi hj
      split
      · omega
      · split
        · split <;> omega
        · decide
  · rw [z1 i i hi hi, if_pos rfl]
    have := diag_cT c1 i hi
    omega
  · rw [z2 i i hi hi, if_pos rfl]
    have := diag_rT c1 c4 i hi
    omega
/-! whole numbers alone -/
theorem whB_v {b : Int} (hb : -100000000 < b ∧ b ≤ 268435456) : whB b = if 268435456 ≤ b then b else if b % 2 = 1 then b else b - 1 := by
  unfold whB
  rw [and_1, w_id (by omega)]
theorem rwb_v {b : Int} (hb : -1000000 < b ∧ b ≤ 1000000) : rwb b = if 1000000 ≤ b then b else if b % 2 = 1 then b else b - 1 := by
  unfold rwb
  rw [and_1, w_id (by omega)]
  by_cases h : 1000000 ≤ b
  · rw [if_pos h, if_pos h]
  · rw [if_neg h, if_neg h]
    by_cases h2 : b % 2 = 1
    · rw [if_pos h2, if_pos (by omega)]
    · rw [if_neg h2, if_neg (by omega)]
/-- a bound that whole numbers reach -/
def wb (b : Bd) : Bd := match b with
  | none => none
  | some x => some (if x % 2 = 1 then x else x - 1)
theorem cv_whB {b : Int} (hb : -100000000 < b ∧ b ≤ 268435456) : cv (whB b) = wb (cv b) := by
  rw [whB_v hb]
  by_cases h : 268435456 ≤ b
  · rw [if_pos h, cv_n h]; rfl
  · rw [if_neg h, cv_s (b := b) (by omega)]
    show _ = some (if b % 2 = 1 then b else b - 1)
    rw [cv_s (by split <;> omega)]
theorem rv_rwb {b : Int} (hb : -1000000 < b ∧ b ≤ 1000000) : rv (rwb b) = wb (rv b) := by
  rw [rwb_v hb]
  by_cases h : 1000000 ≤ b
  · rw [if_pos h, rv_n h]; rfl
  · rw [if_neg h, rv_s (b := b) (by omega)]
    show _ = some (if b % 2 = 1 then b else b - 1)
    rw [rv_s (by split <;> omega)]
theorem TS_whole {n : Nat} {M : Int} (hM : 2 ≤ M) (hb : bm (M + 1) n ≤ 1000000) {C A C' A' : Mt} (h : TS n M (0, C) (0, A)) (eC : ∀ i j, i < n → j < n → C' i j = whB (C i j)) (eA : ∀ i j, i < n → j < n → A' i j = rwb (A i j)) : TS n (bm (M + 1) n) (zcl n 0 C') (rcl n (0, A')) := by
  rcases h with ⟨a, _⟩ | ⟨_, _, c1, c2, c3, c4, c5, c6⟩
  · exact absurd (show (0 : Int) = 1 from a) (by decide)
  have hMb := bm_big (by omega : 0 ≤ M + 1) n
  have c1 : Cl n (cT C) := c1
  have c2 : Zr n (cT C) := c2
  have c3 : Bb n M (cT C) := c3
  have c4 : Eqn n (cT C) (rT A) := c4
  have c5 : NC n C := c5
  have c6 : NI n A := c6
  have e1 : ∀ i j, i < n → j < n → cT C' i j = wb (cT C i j) := fun i j hi hj => by
    show cv (C' i j) = _
    rw [eC i j hi hj]
    exact cv_whB (by have := c5 i j hi hj; omega)
  have e2 : ∀ i j, i < n → j < n → rT A' i j = wb (rT A i j) := fun i j hi hj => by
    show rv (A' i j) = _
    rw [eA i j hi hj]
    exact rv_rwb (c6 i j hi hj)
  have e : Eqn n (cT C') (rT A') := fun i j hi hj => by rw [e1 i j hi hj, e2 i j hi hj, c4 i j hi hj]
  have wle : ∀ b : Bd, ble (wb b) b := by
    intro b
    cases b with
    | none => exact trivial
    | some x => show (if x % 2 = 1 then x else x - 1) ≤ x; split <;> omega
  have hB : Bb n (M + 1) (cT C') := fun i j x hi hj hx => by
    rw [e1 i j hi hj] at hx
    cases hy : cT C i j with
    | none => rw [hy] at hx; cases hx
    | some y =>
      rw [hy] at hx
      have hx := Option.some.inj (show some (if y % 2 = 1 then y else y - 1) = some x from hx)
      have := c3 i j y hi hj hy
      split at hx <;> omega
  refine TS_close (by omega) hb e hB (fun j hj => ?_) (Bb_NC (by omega) hB (fun i j hi hj => ?_)) (Bb_NI (by omega) (Bb_e e hB) (fun i j hi hj => ?_)) (fun i hi => ?_) (fun i hi => ?_)
  · rw [e1 0 j (by omega) hj]; exact ble_t (wle _) (c2 j hj)
  · have := c5 i j hi hj
    rw [eC i j hi hj, whB_v (by omega)]
    split
    · omega
    · split <;> omega
  · have := c6 i j hi hj
    rw [eA i j hi hj, rwb_v (by omega)]
    split
    · omega
    · split <;> omega
  · rw [eC i i hi hi, diag_cT c1 i hi]; decide
  · rw [eA i i hi hi, diag_rT c1 c4 i hi]; decide
