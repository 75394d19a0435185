/-! Whole tables: their bounds are reached; the least point; points counted. -/
def Od (n : Nat) (A : Bt) : Prop := ∀ i j x, i < n → j < n → A i j = some x → x % 2 = 1
def odu (b : Bd) : Bd := match b with
  | none => none
  | some x => some (if x % 2 = 1 then x else x + 1)
theorem odu_ge (b : Bd) : ble b (odu b) := by
  cases b with
  | none => exact trivial
  | some x => show x ≤ (if x % 2 = 1 then x else x + 1); split <;> omega
theorem odu_le {a : Bd} {y : Int} (hy : y % 2 = 1) (h : ble a (some y)) : ble (odu a) (some y) := by
  cases a with
  | none => exact h
  | some x =>
    have h : x ≤ y := h
    show (if x % 2 = 1 then x else x + 1) ≤ y
    split <;> omega
theorem odu_odd {b : Bd} {x : Int} (h : odu b = some x) : x % 2 = 1 := by
  cases b with
  | none => cases h
  | some y =>
    have h := Option.some.inj (show some (if y % 2 = 1 then y else y + 1) = some x from h)
    split at h <;> omega
theorem Gr_odd {n : Nat} {A W : Bt} (hA : Od n A) (g : Gr n A W) : Od n W := by
  have hc : Cl n (fun i j => odu (W i j)) := by
    refine ⟨fun i hi => ?_, fun i j k hi hj hk => ?_⟩
    · show odu (W i i) = some 1
      rw [g.1.1 i hi]
      rfl
    · show ble (odu (W i j)) (bad (odu (W i k)) (odu (W k j)))
      cases h1 : odu (W i k) with
      | none => exact trivial
      | some x =>
        cases h2 : odu (W k j) with
        | none => exact trivial
        | some y =>
          have hx := odu_odd h1
          have hy := odu_odd h2
          show ble (odu (W i j)) (some (pz x y))
          refine odu_le (by unfold pz; omega) ?_
          refine ble_t (g.1.2 i j k hi hj hk) ?_
          have := bad_m (odu_ge (W i k)) (odu_ge (W k j))
          rw [h1, h2] at this
          exact this
  have hb : Bl n (fun i j => odu (W i j)) A := by
    intro i j hi hj
    show ble (odu (W i j)) (A i j)
    cases h : A i j with
    | none => exact trivial
    | some y =>
      refine odu_le (hA i j y hi hj h) ?_
      rw [← h]
      exact g.2.1 i j hi hj
  intro i j x hi hj hx
  have h := g.2.2 _ hc hb i j hi hj
  have h : ble (odu (W i j)) (W i j) := h
  rw [hx] at h
  have h : (if x % 2 = 1 then x else x + 1) ≤ x := h
  split at h <;> omega
/-- a point as a table -/
def ptT (t : Nat → Int) : Bt := fun i j => some (2 * (t i - t j) + 1)
theorem ptT_cl (n : Nat) (t : Nat → Int) : Cl n (ptT t) := by
  refine ⟨fun i hi => ?_, fun i j k hi hj hk => ?_⟩
  · show some (2 * (t i - t i) + 1) = some 1
    congr 1
    omega
  · show 2 * (t i - t j) + 1 ≤ pz (2 * (t i - t k) + 1) (2 * (t k - t j) + 1)
    unfold pz
    omega
/-- at most 100 asked of each clock -/
def hunT (W : Bt) : Bt := fun i j => if j = 0 ∧ i ≠ 0 then bmn (W i j) (some 201) else W i j
theorem hun_iff {n : Nat} {W D : Bt} (hn : 0 < n) (hd : Cl n D) : Bl n D (hunT W) ↔ Bl n D W ∧ ∀ i, i < n → ble (D i 0) (some 201) := by
  constructor
  · intro h
    refine ⟨fun i j hi hj => ?_, fun i hi => ?_⟩
    · have := h i j hi hj
      unfold hunT at this
      split at this
      · exact ble_t this (bmn_l _ _)
      · exact this
    · by_cases z : i = 0
      · rw [z, hd.1 0 hn]
        show (1 : Int) ≤ 201
        decide
      · have := h i 0 hi hn
        unfold hunT at this
        rw [if_pos ⟨rfl, z⟩] at this
        exact ble_t this (bmn_r _ _)
  · intro ⟨h1, h2⟩ i j hi hj
    unfold hunT
    split
    · next e =>
      refine bmn_g (h1 i j hi hj) ?_
      rw [e.1]
      exact h2 i hi
    · exact h1 i j hi hj
/-- the least of each clock -/
def lsp (W : Bt) (i : Nat) : Int := match W 0 i with
  | none => 0
  | some w => (1 - w) / 2
theorem lsp_le {n : Nat} {W : Bt} (hn : 0 < n) (hc : Cl n W) (ho : Od n W) (hz : Zr n W) : Bl n (ptT (lsp W)) W := by
  intro i j hi hj
  have f : ∀ k, k < n → ∃ w, W 0 k = some w ∧ w % 2 = 1 ∧ lsp W k = (1 - w) / 2 := by
    intro k hk
    cases h : W 0 k with
    | none => have := hz k hk; rw [h] at this; exact absurd this ble_ns
    | some w => exact ⟨w, rfl, ho 0 k w hn hk h, by unfold lsp; rw [h]⟩
  obtain ⟨a, a1, a2, a3⟩ := f i hi
  obtain ⟨b, b1, b2, b3⟩ := f j hj
  show ble (some (2 * (lsp W i - lsp W j) + 1)) (W i j)
  cases h : W i j with
  | none => exact trivial
  | some x =>
    have hx := ho i j x hi hj h
    have hq := hc.2 0 j i hn hj hi
    rw [a1, b1, h] at hq
    have hq : b ≤ pz a x := hq
    show 2 * (lsp W i - lsp W j) + 1 ≤ x
    rw [a3, b3]
    unfold pz at hq
    omega
theorem first_ok {n : Nat} {W : Bt} (hn : 0 < n) (hc : Cl n W) (ho : Od n W) (hz : Zr n W) (hl : ∀ i, i < n → lsp W i ≤ 100) : ¬ Vd n (hunT W) ∧ ∀ G, Gr n (hunT W) G → ∀ i, i < n → G 0 i = W 0 i := by
  have h0 : lsp W 0 = 0 := by
    unfold lsp
    rw [hc.1 0 hn]
    rfl
  have hb : Bl n (ptT (lsp W)) (hunT W) := (hun_iff hn (ptT_cl n _)).2 ⟨lsp_le hn hc ho hz, fun i hi => by
    show 2 * (lsp W i - lsp W 0) + 1 ≤ 201
    have := hl i hi
    omega⟩
  refine ⟨fun hv => hv _ (ptT_cl n _) hb, fun G g i hi => ?_⟩
  refine ble_s (((hun_iff hn g.1).1 g.2.1).1 0 i hn hi) ?_
  have := g.2.2 _ (ptT_cl n _) hb 0 i hn hi
  refine ble_t ?_ this
  show ble (W 0 i) (some (2 * (lsp W 0 - lsp W i) + 1))
  rw [h0]
  cases h : W 0 i with
  | none => have := hz i hi; rw [h] at this; exact absurd this ble_ns
  | some w =>
    have hw := ho 0 i w hn hi h
    have e : lsp W i = (1 - w) / 2 := by unfold lsp; rw [h]
    show w ≤ 2 * (0 - lsp W i) + 1
    rw [e]
    omega
theorem first_no {n : Nat} {W : Bt} (hn : 0 < n) (hc : Cl n W) (ho : Od n W) (hz : Zr n W) {i : Nat} (hi : i < n) (hl : 100 < lsp W i) : Vd n (hunT W) := by
  intro D hd hb
  obtain ⟨h1, h2⟩ := (hun_iff hn hd).1 hb
  cases h : W 0 i with
  | none => have := hz i hi; rw [h] at this; exact absurd this ble_ns
  | some w =>
    have hw := ho 0 i w hn hi h
    have e : lsp W i = (1 - w) / 2 := by unfold lsp; rw [h]
    have a1 := h1 0 i hn hi
    rw [h] at a1
    have a2 := ble_t (hd.2 0 0 i hn hn hi) (bad_m a1 (h2 i hi))
    rw [hd.1 0 hn] at a2
    have a2 : (1 : Int) ≤ pz w 201 := a2
    unfold pz at a2
    omega
/-! sums -/
def sumN (n : Nat) (g : Nat → Int) : Int := match n with
  | 0 => 0
  | n + 1 => sumN n g + g n
theorem sumN_c {n : Nat} {g h : Nat → Int} (e : ∀ i, i < n → g i = h i) : sumN n g = sumN n h := by
  induction n with
  | zero => rfl
  | succ n ih =>
    show sumN n g + g n = sumN n h + h n
    rw [ih (fun i hi => e i (by omega)), e n (by omega)]
theorem sumN_a (n : Nat) (g h : Nat → Int) : sumN n (fun i => g i + h i) = sumN n g + sumN n h := by
  induction n with
  | zero => rfl
  | succ n ih =>
    show sumN n (fun i => g i + h i) + (g n + h n) = sumN n g + g n + (sumN n h + h n)
    rw [ih]
    omega
theorem sumN_z {n : Nat} {g : Nat → Int} (e : ∀ i, i < n → g i = 0) : sumN n g = 0 := by
  induction n with
  | zero => rfl
  | succ n ih =>
    show sumN n g + g n = 0
    rw [ih (fun i hi => e i (by omega)), e n (by omega)]
    rfl
theorem sumN_p (n m : Nat) (g : Nat → Int) : sumN (n + m) g = sumN n g + sumN m (fun i => g (n + i)) := by
  induction m with
  | zero => show sumN n g = sumN n g + 0; omega
  | succ m ih =>
    show sumN (n + m) g + g (n + m) = sumN n g + (sumN m (fun i => g (n + i)) + g (n + m))
    rw [ih]
    omega
/-- by the lowest digit first -/
theorem sumN_m (B N : Nat) (g : Nat → Int) : sumN (B * N) g = sumN B (fun t => sumN N (fun c => g (t + B * c))) := by
  induction N with
  | zero =>
    show (0 : Int) = _
    exact (sumN_z (fun i _ => rfl)).symm
  | succ N ih =>
    have e : B * (N + 1) = B * N + B := by rw [Nat.mul_add, Nat.mul_one]
    rw [e, sumN_p, ih]
    have : sumN B (fun t => sumN (N + 1) (fun c => g (t + B * c))) = sumN B (fun t => sumN N (fun c => g (t + B * c)) + g (t + B * N)) := rfl
    rw [this, sumN_a]
    congr 1
    exact sumN_c (fun i _ => by rw [Nat.add_comm])
/-- a sum over a range, nothing elsewhere -/
theorem sumN_r {n : Nat} {g : Nat → Int} {l h : Nat} (hh : h ≤ n) (e : ∀ i, i < n → ¬ (l ≤ i ∧ i < h) → g i = 0) : sumN n g = sumN (h - l) (fun i => g (l + i)) := by
  by_cases hl : l ≤ h
  · have e1 : n = l + ((h - l) + (n - h)) := by omega
    rw [e1, sumN_p, sumN_z (n := l) (fun i hi => e i (by omega) (by omega)), sumN_p]
    rw [sumN_z (n := n - h) (fun i hi => e (l + (h - l + i)) (by omega) (by omega))]
    omega
  · rw [show h - l = 0 by omega]
    exact sumN_z (fun i hi => e i hi (by omega))
theorem sumN_1 (n : Nat) : sumN n (fun _ => 1) = (n : Int) := by
  induction n with
  | zero => rfl
  | succ n ih =>
    show sumN n (fun _ => 1) + 1 = _
    rw [ih]
    omega
