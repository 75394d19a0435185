/-! Whole points counted: by ranges (the class), by digits (the reference). -/
def up1 (t : Nat → Int) (c : Nat) (v : Int) : Nat → Int := fun k => if k = c then v else t k
def loP (C : Mt) (t : Nat → Int) (c m : Nat) : Int := itr m (fun j l => if l < t j - C j c / 2 then t j - C j c / 2 else l) 0
def hiP (C : Mt) (t : Nat → Int) (c m : Nat) : Int := itr m (fun j h => if t j + C c j / 2 < h then t j + C c j / 2 else h) 9
theorem loP_iff {C : Mt} {t : Nat → Int} {c : Nat} {v : Int} : ∀ m, loP C t c m ≤ v ↔ 0 ≤ v ∧ ∀ j, j < m → t j - C j c / 2 ≤ v := by
  intro m
  induction m with
  | zero => exact ⟨fun h => ⟨h, fun j hj => absurd hj (by omega)⟩, fun h => h.1⟩
  | succ m ih =>
    show (if loP C t c m < t m - C m c / 2 then t m - C m c / 2 else loP C t c m) ≤ v ↔ _
    constructor
    · intro h
      have h1 : loP C t c m ≤ v ∧ t m - C m c / 2 ≤ v := by split at h <;> omega
      refine ⟨(ih.1 h1.1).1, fun j hj => ?_⟩
      by_cases hjm : j = m
      · rw [hjm]; exact h1.2
      · exact (ih.1 h1.1).2 j (by omega)
    · intro h
      have h1 := ih.2 ⟨h.1, fun j hj => h.2 j (by omega)⟩
      have h2 := h.2 m (by omega)
      split <;> omega
theorem hiP_iff {C : Mt} {t : Nat → Int} {c : Nat} {v : Int} : ∀ m, v ≤ hiP C t c m ↔ v ≤ 9 ∧ ∀ j, j < m → v ≤ t j + C c j / 2 := by
  intro m
  induction m with
  | zero => exact ⟨fun h => ⟨h, fun j hj => absurd hj (by omega)⟩, fun h => h.1⟩
  | succ m ih =>
    show v ≤ (if t m + C c m / 2 < hiP C t c m then t m + C c m / 2 else hiP C t c m) ↔ _
    constructor
    · intro h
      have h1 : v ≤ hiP C t c m ∧ v ≤ t m + C c m / 2 := by split at h <;> omega
      refine ⟨(ih.1 h1.1).1, fun j hj => ?_⟩
      by_cases hjm : j = m
      · rw [hjm]; exact h1.2
      · exact (ih.1 h1.1).2 j (by omega)
    · intro h
      have h1 := ih.2 ⟨h.1, fun j hj => h.2 j (by omega)⟩
      have h2 := h.2 m (by omega)
      split <;> omega
theorem loP_0 {C : Mt} {t : Nat → Int} {c m : Nat} : 0 ≤ loP C t c m := ((loP_iff m).1 (Int.le_refl _)).1
theorem hiP_9 {C : Mt} {t : Nat → Int} {c m : Nat} : hiP C t c m ≤ 9 := ((hiP_iff m).1 (Int.le_refl _)).1
/-- points by ranges: d clocks from c on -/
def pF (C : Mt) : Nat → Nat → (Nat → Int) → Int
  | 0, _, _ => 1
  | d + 1, c, t => sumN (hiP C t c c - loP C t c c + 1).toNat (fun v => pF C d (c + 1) (up1 t c (loP C t c c + (v : Int))))
/-- a time of clock c that goes with those ahead of it -/
def okP (C : Mt) (t : Nat → Int) (c : Nat) : Prop := ∀ j, j < c → t c - t j ≤ C c j / 2 ∧ t j - t c ≤ C j c / 2
/-- points by digits -/
def sR (P : (Nat → Int) → Int) (m : Nat) : Nat → Nat → (Nat → Int) → Int
  | 0, _, t => P t
  | d + 1, c, t => sumN (m + 1) (fun v => sR P m d (c + 1) (up1 t c (v : Int)))
theorem sumN_0 (n : Nat) : sumN n (fun _ => 0) = 0 := sumN_z (fun _ _ => rfl)
theorem sR_z {P : (Nat → Int) → Int} {m n : Nat} {C : Mt} (hP : ∀ t, t 0 = 0 → (∀ k, 1 ≤ k → k < n → t k ≤ (m : Int)) → (∃ k, 1 ≤ k ∧ k < n ∧ ¬ okP C t k) → P t = 0) : ∀ d c t, c + d = n → 1 ≤ c → t 0 = 0 → (∀ k, 1 ≤ k → k < c → t k ≤ (m : Int)) → (∃ k, 1 ≤ k ∧ k < c ∧ ¬ okP C t k) → sR P m d c t = 0 := by
  intro d
  induction d with
  | zero =>
    intro c t hc h1 h0 hm ⟨k, k1, k2, k3⟩
    exact hP t h0 (fun k k1 k2 => hm k k1 (by omega)) ⟨k, k1, by omega, k3⟩
  | succ d ih =>
    intro c t hc h1 h0 hm ⟨k, k1, k2, k3⟩
    refine sumN_z (fun v hv => ih (c + 1) _ (by omega) (by omega) ?_ (fun i i1 i2 => ?_) ⟨k, k1, by omega, fun h => k3 (fun j hj => ?_)⟩)
    · show (if 0 = c then (v : Int) else t 0) = 0
      rw [if_neg (by omega)]; exact h0
    · show (if i = c then (v : Int) else t i) ≤ (m : Int)
      by_cases hic : i = c
      · rw [if_pos hic]; omega
      · rw [if_neg hic]; exact hm i i1 (by omega)
    · have := h j hj
      have e1 : up1 t c (v : Int) k = t k := if_neg (by omega)
      have e2 : up1 t c (v : Int) j = t j := if_neg (by omega)
      rw [e1, e2] at this
      exact this
theorem sR_pF {P : (Nat → Int) → Int} {m n : Nat} (hm : m ≤ 9) {C : Mt} (hn : 1 ≤ n) (hC0 : ∀ c, 1 ≤ c → c < n → C c 0 / 2 ≤ (m : Int)) (hP0 : ∀ t, t 0 = 0 → (∀ k, 1 ≤ k → k < n → t k ≤ (m : Int)) → (∃ k, 1 ≤ k ∧ k < n ∧ ¬ okP C t k) → P t = 0) (hP1 : ∀ t, t 0 = 0 → (∀ k, 1 ≤ k → k < n → 0 ≤ t k ∧ t k ≤ (m : Int)) → (∀ k, 1 ≤ k → k < n → okP C t k) → P t = 1) : ∀ d c t, c + d = n → 1 ≤ c → t 0 = 0 → (∀ k, 1 ≤ k → k < c → 0 ≤ t k ∧ t k ≤ (m : Int)) → (∀ k, 1 ≤ k → k < c → okP C t k) → sR P m d c t = pF C d c t := by
  intro d
  induction d with
  | zero =>
    intro c t hc h1 h0 hr hk
    have : c = n := by omega
    subst this
    exact hP1 t h0 hr hk
  | succ d ih =>
    intro c t hc h1 h0 hr hk
    have u0 : ∀ v, up1 t c v 0 = 0 := fun v => by
      show (if 0 = c then v else t 0) = 0
      rw [if_neg (by omega)]; exact h0
    have uk : ∀ v k, k < c → up1 t c v k = t k := fun v k hk => if_neg (by omega)
    have uc : ∀ v, up1 t c v c = v := fun v => if_pos rfl
    have hiff : ∀ v : Int, okP C (up1 t c v) c ↔ ∀ j, j < c → v - t j ≤ C c j / 2 ∧ t j - v ≤ C j c / 2 := by
      intro v
      constructor
      · intro h j hj
        have := h j hj
        rw [uc, uk v j hj] at this
        exact this
      · intro h j hj
        rw [uc, uk v j hj]
        exact h j hj
    have hrng : ∀ v : Int, (loP C t c c ≤ v ∧ v ≤ hiP C t c c) ↔ (0 ≤ v ∧ v ≤ 9) ∧ okP C (up1 t c v) c := by
      intro v
      rw [loP_iff, hiP_iff, hiff]
      constructor
      · intro ⟨⟨a1, a2⟩, b1, b2⟩
        exact ⟨⟨a1, b1⟩, fun j hj => ⟨by have := b2 j hj; omega, by have := a2 j hj; omega⟩⟩
      · intro ⟨⟨a1, b1⟩, h⟩
        exact ⟨⟨a1, fun j hj => by have := (h j hj).2; omega⟩, b1, fun j hj => by have := (h j hj).1; omega⟩
    have hlo := loP_0 (C := C) (t := t) (c := c) (m := c)
    have hhim : hiP C t c c ≤ (m : Int) := by
      have a := ((hiP_iff (C := C) (t := t) (c := c) c).1 (Int.le_refl _)).2 0 (by omega)
      have b := hC0 c h1 (by omega)
      rw [h0] at a
      omega
    have step : ∀ v : Nat, v < m + 1 → (loP C t c c ≤ (v : Int) ∧ (v : Int) ≤ hiP C t c c) → sR P m d (c + 1) (up1 t c (v : Int)) = pF C d (c + 1) (up1 t c (v : Int)) := by
      intro v hv hvr
      have ho := ((hrng v).1 hvr).2
      refine ih (c + 1) _ (by omega) (by omega) (u0 _) (fun k k1 k2 => ?_) (fun k k1 k2 => ?_)
      · by_cases hkc : k = c
        · rw [hkc, uc]; omega
        · rw [uk _ k (by omega)]; exact hr k k1 (by omega)
      · by_cases hkc : k = c
        · rw [hkc]; exact ho
        · intro j hj
          rw [uk _ k (by omega), uk _ j (by omega)]
          exact hk k k1 (by omega) j hj
    have zero : ∀ v : Nat, v < m + 1 → ¬ (loP C t c c ≤ (v : Int) ∧ (v : Int) ≤ hiP C t c c) → sR P m d (c + 1) (up1 t c (v : Int)) = 0 := by
      intro v hv hvr
      refine sR_z hP0 d (c + 1) _ (by omega) (by omega) (u0 _) (fun k k1 k2 => by
        by_cases hkc : k = c
        · rw [hkc, uc]; omega
        · rw [uk _ k (by omega)]; exact (hr k k1 (by omega)).2) ⟨c, h1, by omega, fun ho => hvr ((hrng v).2 ⟨⟨by omega, by omega⟩, ho⟩)⟩
    show sumN (m + 1) (fun v => sR P m d (c + 1) (up1 t c (v : Int))) = sumN (hiP C t c c - loP C t c c + 1).toNat (fun v => pF C d (c + 1) (up1 t c (loP C t c c + (v : Int))))
    rw [sumN_r (l := (loP C t c c).toNat) (h := (hiP C t c c + 1).toNat) (by omega) (fun i hi hn' => zero i hi (by omega))]
    have en : (hiP C t c c + 1).toNat - (loP C t c c).toNat = (hiP C t c c - loP C t c c + 1).toNat := by omega
    rw [en]
    refine sumN_c (fun i hi => ?_)
    have e1 : (((loP C t c c).toNat + i : Nat) : Int) = loP C t c c + (i : Int) := by omega
    rw [← e1]
    exact step _ (by omega) ⟨by omega, by omega⟩
/-- the digits of a number, from clock c on -/
def dgT (m : Nat) : Nat → Nat → Nat → (Nat → Int) → (Nat → Int)
  | 0, _, _, t => t
  | d + 1, c, x, t => dgT m d (c + 1) (x / (m + 1)) (up1 t c ((x % (m + 1) : Nat) : Int))
theorem dg_sum {P : (Nat → Int) → Int} {m : Nat} : ∀ d c t, sumN ((m + 1) ^ d) (fun x => P (dgT m d c x t)) = sR P m d c t := by
  intro d
  induction d with
  | zero =>
    intro c t
    show sumN 1 (fun x => P t) = P t
    show sumN 0 (fun x => P t) + P t = P t
    show (0 : Int) + P t = P t
    omega
  | succ d ih =>
    intro c t
    rw [Nat.pow_succ, Nat.mul_comm, sumN_m]
    show _ = sumN (m + 1) (fun v => sR P m d (c + 1) (up1 t c (v : Int)))
    refine sumN_c (fun v hv => ?_)
    rw [← ih (c + 1) (up1 t c (v : Int))]
    refine sumN_c (fun y _ => ?_)
    show P (dgT m d (c + 1) ((v + (m + 1) * y) / (m + 1)) (up1 t c (((v + (m + 1) * y) % (m + 1) : Nat) : Int))) = _
    rw [Nat.add_mul_div_left _ _ (by omega), Nat.div_eq_of_lt hv, Nat.zero_add, Nat.add_mul_mod_self_left, Nat.mod_eq_of_lt hv]
theorem TS_self {n : Nat} {M : Int} (hM : M ≤ 1000000) {C : Mt} (h1 : Cl n (cT C)) (h2 : Zr n (cT C)) (h3 : Bb n M (cT C)) (h4 : NC n C) : TS n M (0, C) (0, fun i j => if 268435456 ≤ C i j then 1000000 else C i j) := by
  refine Or.inr ⟨rfl, rfl, h1, h2, h3, fun i j hi hj => ?_, h4, fun i j hi hj => ?_⟩
  · show cv (C i j) = rv (if 268435456 ≤ C i j then 1000000 else C i j)
    by_cases h : 268435456 ≤ C i j
    · rw [if_pos h, cv_n h]; rfl
    · have b := h3 i j (C i j) hi hj (show cv (C i j) = some (C i j) from cv_s (by omega))
      rw [if_neg h, cv_s (by omega), rv_s (by omega)]
  · show -1000000 < (if 268435456 ≤ C i j then 1000000 else C i j) ∧ (if 268435456 ≤ C i j then 1000000 else C i j) ≤ 1000000
    by_cases h : 268435456 ≤ C i j
    · rw [if_pos h]; omega
    · have b := h3 i j (C i j) hi hj (show cv (C i j) = some (C i j) from cv_s (by omega))
      rw [if_neg h]; omega
/-- all clocks at most m -/
def lwN (m : Int) (k : Nat) (A : Bt) : Bt := itr k (fun c A => lowB (c + 1) 0 (some (2 * m + 1)) A) A
theorem lwN_iff {n : Nat} {m : Int} {A D : Bt} : ∀ k, k < n → (Bl n D (lwN m k A) ↔ Bl n D A ∧ ∀ c, 1 ≤ c → c ≤ k → ble (D c 0) (some (2 * m + 1))) := by
  intro k
  induction k with
  | zero => exact fun _ => ⟨fun h => ⟨h, fun c h1 h2 => absurd h1 (by omega)⟩, fun h => h.1⟩
  | succ k ih =>
    intro hk
    show Bl n D (lowB (k + 1) 0 (some (2 * m + 1)) (lwN m k A)) ↔ _
    rw [Bl_low hk (by omega), ih (by omega)]
    constructor
    · intro ⟨⟨a, b⟩, e⟩
      refine ⟨a, fun c h1 h2 => ?_⟩
      by_cases hc : c = k + 1
      · rw [hc]; exact e
      · exact b c h1 (by omega)
    · intro ⟨a, b⟩
      exact ⟨⟨a, fun c h1 h2 => b c h1 (by omega)⟩, b (k + 1) (by omega) (Nat.le_refl _)⟩
theorem lwN_bb {n : Nat} {m : Int} (hm : 0 ≤ m ∧ m ≤ 9) {A : Bt} (hA : Bb n 802 A) (hd : ∀ x, x < n → ble (A x x) (some 1)) (hz : Zr n A) : ∀ k, Bb n 802 (lwN m k A) ∧ (∀ x, x < n → ble (lwN m k A x x) (some 1)) ∧ Zr n (lwN m k A) := by
  intro k
  induction k with
  | zero => exact ⟨hA, hd, hz⟩
  | succ k ih =>
    refine ⟨Bb_low ih.1 (fun x hx => by have := Option.some.inj hx; omega), lowB_diag ih.2.1, fun j hj => ?_⟩
    exact ble_t (show ble (lowB (k + 1) 0 (some (2 * m + 1)) (lwN m k A) 0 j) (lwN m k A 0 j) from lowB_le _ _ _ _ _ _) (ih.2.2 j hj)
def ztN (n : Nat) (b : Int) (k : Nat) (q : Int × Mt) : Int × Mt := itr k (fun c q => zt n (c + 1) 0 b q.1 q.2) q
theorem ztN_CS {n : Nat} {m : Int} (hm : 0 ≤ m ∧ m ≤ 9) (hn : n ≤ 5) {A : Bt} (hA : Bb n 802 A) (hd : ∀ x, x < n → ble (A x x) (some 1)) (hz : Zr n A) {q : Int × Mt} (h : CS n A q) : ∀ k, k < n → CS n (lwN m k A) (ztN n (2 * m + 1) k q) := by
  have hb := bmb hn
  intro k
  induction k with
  | zero => exact fun _ => h
  | succ k ih =>
    intro hk
    obtain ⟨b1, b2, _⟩ := lwN_bb hm hA hd hz k
    have := zt_CS (i := k + 1) (j := 0) (b := 2 * m + 1) hk (by omega) (by decide) (by omega) b1 b2 (fun x hx => by rw [cv_s (by omega)] at hx; have := Option.some.inj hx; omega) (by decide) (ih (by omega))
    rw [cv_s (by omega)] at this
    exact this
theorem ztN_v {n : Nat} {b : Int} {q : Int × Mt} (h : q.1 = 1) : ∀ k, (ztN n b k q).1 = 1 := by
  intro k
  induction k with
  | zero => exact h
  | succ k ih => exact zt_v ih
/-- what the class counts, what the reference counts -/
theorem points_eq {n m : Nat} (hn1 : 1 ≤ n) (hn : n ≤ 5) (hm : m ≤ 9) {C A : Mt} (h : TS n 802 (0, C) (0, A)) {P : (Nat → Int) → Int} (hP : ∀ t, (Bl n (ptT t) (rT A) → P t = 1) ∧ (¬ Bl n (ptT t) (rT A) → P t = 0)) {C2 : Mt} (eC : ∀ i j, i < n → j < n → C2 i j = whB ((ztN n (2 * (m : Int) + 1) (n - 1) (0, C)).2 i j)) (t : Nat → Int) (ht : t 0 = 0) : (sR P m (n - 1) 1 t = if (zcl n (ztN n (2 * (m : Int) + 1) (n - 1) (0, C)).1 C2).1 = 0 then pF (zcl n (ztN n (2 * (m : Int) + 1) (n - 1) (0, C)).1 C2).2 (n - 1) 1 t else 0) ∧ ((zcl n (ztN n (2 * (m : Int) + 1) (n - 1) (0, C)).1 C2).1 = 0 → NC n (zcl n (ztN n (2 * (m : Int) + 1) (n - 1) (0, C)).1 C2).2) := by
  have h' := h
  rcases h with ⟨a, _⟩ | ⟨_, _, c1, c2, c3, c4, c5, c6⟩
  · exact absurd (show (0 : Int) = 1 from a) (by decide)
  have c1 : Cl n (cT C) := c1
  have c2 : Zr n (cT C) := c2
  have c3 : Bb n 802 (cT C) := c3
  have c4 : Eqn n (cT C) (rT A) := c4
  have hbm := bmb hn
  have hmi : 0 ≤ (m : Int) ∧ (m : Int) ≤ 9 := ⟨by omega, by omega⟩
  have CS1 := ztN_CS hmi hn c3 (Cl_diag c1) c2 (Or.inr ⟨rfl, Gr_self c1, c5⟩ : CS n (cT C) (0, C)) (n - 1) (by omega)
  obtain ⟨l1, l2, l3⟩ := lwN_bb hmi c3 (Cl_diag c1) c2 (n - 1)
  generalize ztN n (2 * (m : Int) + 1) (n - 1) (0, C) = q1 at CS1 eC
  -- a point keeps the table and the limit
  have pt0 : ∀ s : Nat → Int, s 0 = 0 → (Bl n (ptT s) (lwN (m : Int) (n - 1) (cT C)) ↔ Bl n (ptT s) (rT A) ∧ ∀ k, 1 ≤ k → k < n → s k ≤ (m : Int)) := by
    intro s hs
    rw [lwN_iff (n - 1) (by omega), Sm_e c4 _ (ptT_cl n s)]
    refine and_congr Iff.rfl ⟨fun h k k1 k2 => ?_, fun h k k1 k2 => ?_⟩
    · have : (2 * (s k - s 0) + 1 : Int) ≤ 2 * (m : Int) + 1 := h k k1 (by omega)
      omega
    · show (2 * (s k - s 0) + 1 : Int) ≤ 2 * (m : Int) + 1
      have := h k k1 (by omega)
      omega
  have allz : (∀ s : Nat → Int, s 0 = 0 → (∀ k, 1 ≤ k → k < n → s k ≤ (m : Int)) → ¬ Bl n (ptT s) (rT A)) → ∀ d c s, c + d = n → 1 ≤ c → s 0 = 0 → (∀ k, 1 ≤ k → k < c → s k ≤ (m : Int)) → sR P m d c s = 0 := by
    intro hz d
    induction d with
    | zero =>
      intro c s hc h1 h0 hk
      exact (hP s).2 (hz s h0 (fun k k1 k2 => hk k k1 (by omega)))
    | succ d ih =>
      intro c s hc h1 h0 hk
      refine sumN_z (fun v hv => ih (c + 1) _ (by omega) (by omega) ?_ (fun k k1 k2 => ?_))
      · show (if 0 = c then (v : Int) else s 0) = 0
        rw [if_neg (by omega)]; exact h0
      · show (if k = c then (v : Int) else s k) ≤ (m : Int)
        by_cases hkc : k = c
        · rw [if_pos hkc]; omega
        · rw [if_neg hkc]; exact hk k k1 (by omega)
  rcases CS1 with ⟨v1, v2⟩ | ⟨v1, v2, v3⟩
  · have e1 : (zcl n q1.1 C2).1 = 1 := by unfold zcl; rw [if_pos (by rw [v1]; decide)]
    rw [if_neg (by rw [e1]; decide)]
    refine ⟨?_, fun z => by rw [e1] at z; exact absurd z (by decide)⟩
    refine allz (fun s h0 hk hB => v2 _ (ptT_cl n s) ((pt0 s h0).2 ⟨hB, hk⟩)) (n - 1) 1 t (by omega) (by omega) ht (fun k k1 k2 => absurd k2 (by omega))
  · rw [v1]
    have g1 : Cl n (cT q1.2) := v2.1
    have g2 : Zr n (cT q1.2) := fun j hj => ble_t (v2.2.1 0 j (by omega) hj) (l3 j hj)
    have g3 := Gr_bb (by decide) l1 l2 v2
    have hbm2 := bm5 (M := bm 802 n + 1) (by omega) hn
    have T1 := TS_self (M := bm 802 n) (by omega) g1 g2 g3 v3
    obtain ⟨w1, w2, w3, w4, w5, w6⟩ := wh_CS (M := bm 802 n) (by omega) (by omega) T1 eC
    -- odd bounds: a point keeps the whole table just where it keeps the table
    have pt1 : ∀ s : Nat → Int, Bl n (ptT s) (cT C2) ↔ Bl n (ptT s) (cT q1.2) := by
      intro s
      have key : ∀ (x : Int) (b : Bd), x % 2 = 1 → (ble (some x) (wb b) ↔ ble (some x) b) := by
        intro x b hx
        cases b with
        | none => exact Iff.rfl
        | some y =>
          show x ≤ (if y % 2 = 1 then y else y - 1) ↔ x ≤ y
          split <;> omega
      have e : ∀ i j, i < n → j < n → cT C2 i j = wb (cT q1.2 i j) := fun i j hi hj => by
        show cv (C2 i j) = _
        rw [eC i j hi hj]
        exact cv_whB (by have := v3 i j hi hj; omega)
      constructor
      · intro hB i j hi hj
        have := hB i j hi hj
        rw [e i j hi hj] at this
        exact (key _ _ (by omega)).1 this
      · intro hB i j hi hj
        rw [e i j hi hj]
        exact (key _ _ (by omega)).2 (hB i j hi hj)
    have pt2 : ∀ s : Nat → Int, Bl n (ptT s) (cT q1.2) ↔ Bl n (ptT s) (lwN (m : Int) (n - 1) (cT C)) := fun s => Sm_gr v2 _ (ptT_cl n s)
    generalize zcl n 0 C2 = q2 at w1
    rcases w1 with ⟨x1, x2⟩ | ⟨x1, x2, x3⟩
    · rw [if_neg (by rw [x1]; decide)]
      refine ⟨?_, fun z => by rw [x1] at z; exact absurd z (by decide)⟩
      refine allz (fun s h0 hk hB => x2 _ (ptT_cl n s) ((pt1 s).2 ((pt2 s).2 ((pt0 s h0).2 ⟨hB, hk⟩)))) (n - 1) 1 t (by omega) (by omega) ht (fun k k1 k2 => absurd k2 (by omega))
    · rw [if_pos x1]
      refine ⟨?_, fun _ => x3⟩
      have oW := Gr_odd w2 x2
      have zW : Zr n (cT q2.2) := fun j hj => ble_t (x2.2.1 0 j (by omega) hj) (w3 j hj)
      have pt3 : ∀ s : Nat → Int, Bl n (ptT s) (cT q2.2) ↔ Bl n (ptT s) (cT C2) := fun s => Sm_gr x2 _ (ptT_cl n s)
      -- the limit is in the table
      have lim : ∀ k, 1 ≤ k → k < n → q2.2 k 0 < 268435456 ∧ q2.2 k 0 / 2 ≤ (m : Int) := by
        intro k k1 k2
        have a1 := x2.2.1 k 0 k2 (by omega)
        have a2 : ble (cT C2 k 0) (cT q1.2 k 0) := by
          have e : cT C2 k 0 = wb (cT q1.2 k 0) := by
            show cv (C2 k 0) = _
            rw [eC k 0 k2 (by omega)]
            exact cv_whB (by have := v3 k 0 k2 (by omega); omega)
          rw [e]
          cases cT q1.2 k 0 with
          | none => exact trivial
          | some y => show (if y % 2 = 1 then y else y - 1) ≤ y; split <;> omega
        have a3 := ((lwN_iff (D := cT q1.2) (n - 1) (by omega)).1 v2.2.1).2 k k1 (by omega)
        have a4 : ble (cv (q2.2 k 0)) (some (2 * (m : Int) + 1)) := ble_t a1 (ble_t a2 a3)
        by_cases hlt : q2.2 k 0 < 268435456
        · rw [cv_s hlt] at a4
          have : q2.2 k 0 ≤ 2 * (m : Int) + 1 := a4
          exact ⟨hlt, by omega⟩
        · rw [cv_n (by omega)] at a4
          exact absurd a4 ble_ns
      -- one cell of the table
      have cell : ∀ i j x, i < n → j < n → (ble (some (2 * x + 1)) (cT q2.2 i j) ↔ x ≤ q2.2 i j / 2 ∨ 268435456 ≤ q2.2 i j) := by
        intro i j x hi hj
        show ble (some (2 * x + 1)) (cv (q2.2 i j)) ↔ _
        by_cases hlt : q2.2 i j < 268435456
        · have ho := oW i j _ hi hj (show cv (q2.2 i j) = some (q2.2 i j) from cv_s hlt)
          rw [cv_s hlt]
          show 2 * x + 1 ≤ q2.2 i j ↔ _
          omega
        · rw [cv_n (by omega)]
          exact ⟨fun _ => Or.inr (by omega), fun _ => trivial⟩
      -- all cells beside a clock are bounds
      have fin : ∀ i j, i < n → j < n → q2.2 i j < 268435456 := by
        intro i j hi hj
        have a := x2.1.2 i j 0 hi hj (by omega)
        have b0 : ble (cT q2.2 i 0) (some (2 * (m : Int) + 1)) := by
          by_cases hi0 : i = 0
          · rw [hi0, x2.1.1 0 (by omega)]; show (1 : Int) ≤ 2 * (m : Int) + 1; omega
          · have := lim i (by omega) hi
            show ble (cv (q2.2 i 0)) _
            rw [cv_s this.1]
            have ho := oW i 0 _ hi (by omega) (show cv (q2.2 i 0) = some (q2.2 i 0) from cv_s this.1)
            show q2.2 i 0 ≤ 2 * (m : Int) + 1
            omega
        have c0 := ble_t a (bad_m b0 (zW j hj))
        by_cases hlt : q2.2 i j < 268435456
        · exact hlt
        · have c0' : ble (cv (q2.2 i j)) (bad (some (2 * (m : Int) + 1)) (some 1)) := c0
          rw [cv_n (by omega)] at c0'
          exact absurd c0' ble_ns
      have allok : ∀ s : Nat → Int, (Bl n (ptT s) (cT q2.2) ↔ ∀ k, 1 ≤ k → k < n → okP q2.2 s k) := by
        intro s
        constructor
        · intro hB k k1 k2 j hj
          have a := (cell k j (s k - s j) k2 (by omega)).1 (hB k j k2 (by omega))
          have b := (cell j k (s j - s k) (by omega) k2).1 (hB j k (by omega) k2)
          have f1 := fin k j k2 (by omega)
          have f2 := fin j k (by omega) k2
          omega
        · intro hk i j hi hj
          refine (cell i j (s i - s j) hi hj).2 (Or.inl ?_)
          by_cases hij : i = j
          · rw [hij, diag_cT x2.1 j hj]; omega
          · by_cases hlt : j < i
            · exact (hk i (by omega) hi j hlt).1
            · exact (hk j (by omega) hj i (by omega)).2
      refine sR_pF hm hn1 (fun k k1 k2 => (lim k k1 k2).2) (fun s h0 hsm ⟨k, k1, k2, k3⟩ => ?_) (fun s h0 hr hk => ?_) (n - 1) 1 t (by omega) (by omega) ht (fun k k1 k2 => absurd k2 (by omega)) (fun k k1 k2 => absurd k2 (by omega))
      · refine (hP s).2 (fun hB => ?_)
        exact k3 ((allok s).1 ((pt3 s).2 ((pt1 s).2 ((pt2 s).2 ((pt0 s h0).2 ⟨hB, hsm⟩)))) k k1 k2)
      · refine (hP s).1 ((pt0 s h0).1 ((pt2 s).1 ((pt1 s).1 ((pt3 s).1 ((allok s).2 hk))))).1
