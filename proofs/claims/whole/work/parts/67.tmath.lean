/-! Times of a trace: what a list of whens asks at a moment, in the class and in the reference. -/
/-- whens of list l, at moment a, clocks set at s to b -/
def rlP (f : mj_F) (l a m : Nat) (s b : Nat → Int) (D : Bt) : Prop := ∀ k, k < m → ble (D a (s (f 225 (6 * l + k)).toNat).toNat) (ru (f 226 (6 * l + k)) (f 227 (6 * l + k) - b (f 225 (6 * l + k)).toNat)) ∧ ble (D (s (f 225 (6 * l + k)).toNat).toNat a) (rl (f 226 (6 * l + k)) (f 227 (6 * l + k) - b (f 225 (6 * l + k)).toNat))
def rOK (f : mj_F) (l m : Nat) : Prop := ∀ k, k < m → 0 ≤ f 225 (6 * l + k) ∧ f 225 (6 * l + k) < 4 ∧ 0 ≤ f 226 (6 * l + k) ∧ f 226 (6 * l + k) ≤ 4 ∧ 0 ≤ f 227 (6 * l + k) ∧ f 227 (6 * l + k) ≤ 50
def sOK (n : Nat) (s b : Nat → Int) : Prop := ∀ c, c < 4 → 0 ≤ s c ∧ (s c).toNat < n ∧ 0 ≤ b c ∧ b c ≤ 50
theorem hoI_iff {v rel n : Int} (h0 : 0 ≤ rel ∧ rel ≤ 4) : ¬ hoI v rel n = 0 ↔ ble (some 1) (ru rel (n - v)) ∧ ble (some 1) (rl rel (n - v)) := by
  have hc : rel = 0 ∨ rel = 1 ∨ rel = 2 ∨ rel = 3 ∨ rel = 4 := by omega
  rcases hc with rfl | rfl | rfl | rfl | rfl
  · show ¬ (if n ≤ v then (0 : Int) else 1) = 0 ↔ (1 : Int) ≤ 2 * (n - v) ∧ True
    split <;> simp <;> omega
  · show ¬ (if n < v then (0 : Int) else 1) = 0 ↔ (1 : Int) ≤ 2 * (n - v) + 1 ∧ True
    split <;> simp <;> omega
  · show ¬ (if ¬ v = n then (0 : Int) else 1) = 0 ↔ (1 : Int) ≤ 2 * (n - v) + 1 ∧ (1 : Int) ≤ -2 * (n - v) + 1
    by_cases h : v = n
    · rw [if_neg (fun z => z h)]
      constructor
      · intro _; omega
      · intro _; decide
    · rw [if_pos h]
      constructor
      · intro z; exact absurd rfl z
      · intro z; omega
  · show ¬ (if v < n then (0 : Int) else 1) = 0 ↔ True ∧ (1 : Int) ≤ -2 * (n - v) + 1
    split <;> simp <;> omega
  · show ¬ (if v ≤ n then (0 : Int) else 1) = 0 ↔ True ∧ (1 : Int) ≤ -2 * (n - v)
    split <;> simp <;> omega
/-! in the class -/
def cLe (G : Mt) : Prop := ∀ i j, G i j ≤ 268435456
theorem lwI_le {G : Mt} {i j : Nat} {b : Int} (h : cLe G) : cLe (lwI G i j b) := by
  intro x y
  unfold lwI um
  have h1 := h x y
  have h2 := h i j
  split
  · split <;> omega
  · exact h1
theorem lwI_cT {G : Mt} {i j : Nat} {b : Int} (h : cLe G) : cT (lwI G i j b) = lowB i j (cv b) (cT G) := by
  funext x y
  unfold cT lwI um lowB
  by_cases z : x = i ∧ y = j
  · rw [if_pos z, if_pos z, z.1, z.2]
    exact cv_mn (h i j)
  · rw [if_neg z, if_neg z]
/-- the class's list is the reference's -/
def sLm (f : mj_F) (p l m : Nat) : Prop := ∀ k, k < m → f (p + 5) (6 * l + k) = f 225 (6 * l + k) ∧ f (p + 6) (6 * l + k) = f 226 (6 * l + k) ∧ f (p + 7) (6 * l + k) = f 227 (6 * l + k)
theorem tkm_le {F : mj_F} {p l a m : Nat} {G : Mt} (h : cLe G) : cLe (tkm F p l a m G) := by
  induction m with
  | zero => exact h
  | succ m ih => exact lwI_le (lwI_le ih)
theorem tkm_iff {F : mj_F} {p l a m n : Nat} (hs : sLm F p l m) (hr : rOK F l m) (ho : sOK n (F 173) (F 174)) (ha : a < n) {G : Mt} (hG : cLe G) {D : Bt} : Bl n D (cT (tkm F p l a m G)) ↔ Bl n D (cT G) ∧ rlP F l a m (F 173) (F 174) D := by
  induction m with
  | zero => exact ⟨fun h => ⟨h, fun k hk => absurd hk (by omega)⟩, fun h => h.1⟩
  | succ m ih =>
    have i1 := ih (fun k hk => hs k (by omega)) (fun k hk => hr k (by omega))
    obtain ⟨e5, e6, e7⟩ := hs m (by omega)
    have r := hr m (by omega)
    have hGm : cLe (tkm F p l a m G) := tkm_le hG
    have o := ho (F 225 (6 * l + m)).toNat (by omega)
    have ex : tkm F p l a (m + 1) G = tks F p (6 * l + m) a (tkm F p l a m G) := rfl
    have hx : -1000 ≤ F 227 (6 * l + m) - F 174 (F 225 (6 * l + m)).toNat ∧ F 227 (6 * l + m) - F 174 (F 225 (6 * l + m)).toNat ≤ 1000 := by omega
    rw [ex]
    unfold tks
    rw [e5, e6, e7, w_id (by omega), lwI_cT (lwI_le hGm), lwI_cT hGm, cv_up hx, cv_lo hx, Bl_low o.2.1 ha, Bl_low ha o.2.1, i1]
    constructor
    · intro ⟨⟨⟨a1, a2⟩, a3⟩, a4⟩
      refine ⟨a1, fun k hk => ?_⟩
      by_cases z : k = m
      · rw [z]; exact ⟨a3, a4⟩
      · exact a2 k (by omega)
    · intro ⟨a1, a2⟩
      exact ⟨⟨⟨a1, fun k hk => a2 k (by omega)⟩, (a2 m (by omega)).1⟩, (a2 m (by omega)).2⟩
/-! in the reference -/
theorem Bl_lowR {n i j : Nat} (hi : i < n) (hj : j < n) {rel x : Int} {A D : Bt} : Bl n D (lowR i j rel x A) ↔ Bl n D A ∧ ble (D i j) (ru rel x) ∧ ble (D j i) (rl rel x) := by
  unfold lowR
  rw [Bl_low hj hi, Bl_low hi hj]
  exact ⟨fun h => ⟨h.1.1, h.1.2, h.2⟩, fun h => ⟨⟨h.1, h.2.1⟩, h.2.2⟩⟩
theorem hom_iff {F : mj_F} {l a m n : Nat} (hr : rOK F l m) (ho : sOK n (F 255) (F 256)) (ha : a < n) {q : Int × Mt} (hv : q.1 = 0 ∨ q.1 = 1) {D : Bt} (hd : Cl n D) : ((hom F l a m q).1 = 0 ∧ Bl n D (rT (hom F l a m q).2)) ↔ (q.1 = 0 ∧ Bl n D (rT q.2)) ∧ rlP F l a m (F 255) (F 256) D := by
  induction m with
  | zero => exact ⟨fun h => ⟨h, fun k hk => absurd hk (by omega)⟩, fun h => h.1⟩
  | succ m ih =>
    have i1 := ih (fun k hk => hr k (by omega))
    have r := hr m (by omega)
    have o := ho (F 225 (6 * l + m)).toNat (by omega)
    have ex : hom F l a (m + 1) q = hst F (6 * l + m) a (hom F l a m q) := rfl
    have hx : -1000 ≤ F 227 (6 * l + m) - F 256 (F 225 (6 * l + m)).toNat ∧ F 227 (6 * l + m) - F 256 (F 225 (6 * l + m)).toNat ≤ 1000 := by omega
    have key : ((hst F (6 * l + m) a (hom F l a m q)).1 = 0 ∧ Bl n D (rT (hst F (6 * l + m) a (hom F l a m q)).2)) ↔ ((hom F l a m q).1 = 0 ∧ Bl n D (rT (hom F l a m q).2)) ∧ ble (D a (F 255 (F 225 (6 * l + m)).toNat).toNat) (ru (F 226 (6 * l + m)) (F 227 (6 * l + m) - F 256 (F 225 (6 * l + m)).toNat)) ∧ ble (D (F 255 (F 225 (6 * l + m)).toNat).toNat a) (rl (F 226 (6 * l + m)) (F 227 (6 * l + m) - F 256 (F 225 (6 * l + m)).toNat)) := by
      unfold hst
      by_cases hq : F 255 (F 225 (6 * l + m)).toNat = (a : Int)
      · rw [if_pos hq, hq, Int.toNat_natCast, hd.1 a ha, ← hoI_iff ⟨r.2.2.1, r.2.2.2.1⟩]
        show ((if hoI _ _ _ = 0 then (1 : Int) else (hom F l a m q).1) = 0 ∧ _) ↔ _
        by_cases hz : hoI (F 256 (F 225 (6 * l + m)).toNat) (F 226 (6 * l + m)) (F 227 (6 * l + m)) = 0
        · rw [if_pos hz]
          exact ⟨fun z => absurd z.1 (by decide), fun z => absurd hz z.2⟩
        · rw [if_neg hz]
          exact ⟨fun z => ⟨z, hz⟩, fun z => z.1⟩
      · rw [if_neg hq]
        show ((hom F l a m q).1 = 0 ∧ Bl n D (rT (rmt _ _ _ _ _))) ↔ _
        rw [w_id (by omega), rT_rmt ⟨r.2.2.1, r.2.2.2.1⟩ hx, Bl_lowR ha o.2.1]
        exact ⟨fun z => ⟨⟨z.1, z.2.1⟩, z.2.2⟩, fun z => ⟨z.1.1, z.1.2, z.2⟩⟩
    rw [ex, key, i1]
    constructor
    · intro ⟨⟨a1, a2⟩, a3⟩
      refine ⟨a1, fun k hk => ?_⟩
      by_cases z : k = m
      · rw [z]; exact a3
      · exact a2 k (by omega)
    · intro ⟨a1, a2⟩
      exact ⟨⟨a1, fun k hk => a2 k (by omega)⟩, a2 m (by omega)⟩
