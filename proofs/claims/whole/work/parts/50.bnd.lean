/-! Bounds: none, or twice a number and one more where it is reached. Closed tables; the greatest closed one below a table. -/
abbrev Bd : Type := Option Int
abbrev Bt : Type := Nat → Nat → Bd
def pz (x y : Int) : Int := 2 * (x / 2 + y / 2) + min (x % 2) (y % 2)
def bad (a b : Bd) : Bd := match a with
  | none => none
  | some x => match b with
    | none => none
    | some y => some (pz x y)
def ble (a b : Bd) : Prop := match b with
  | none => True
  | some y => match a with
    | none => False
    | some x => x ≤ y
def bmn (a b : Bd) : Bd := match b with
  | none => a
  | some y => match a with
    | none => some y
    | some x => some (if y < x then y else x)
theorem pz_1 (y : Int) : pz 1 y = y := by unfold pz; omega
theorem pz_c (x y : Int) : pz x y = pz y x := by unfold pz; omega
theorem pz_a (x y z : Int) : pz (pz x y) z = pz x (pz y z) := by unfold pz; omega
theorem pz_m {x y u v : Int} (h1 : x ≤ u) (h2 : y ≤ v) : pz x y ≤ pz u v := by unfold pz; omega
theorem pz_lo (x y : Int) : x + y - 1 ≤ pz x y ∧ pz x y ≤ x + y := by unfold pz; omega
theorem ble_none (a : Bd) : ble a none := trivial
theorem ble_some {x y : Int} : ble (some x) (some y) ↔ x ≤ y := Iff.rfl
theorem ble_ns {y : Int} : ¬ ble none (some y) := fun h => h
theorem ble_r (a : Bd) : ble a a := by
  cases a with
  | none => trivial
  | some x => exact Int.le_refl x
theorem ble_e {a b : Bd} (h : a = b) : ble a b := by rw [h]; exact ble_r b
theorem ble_t {a b c : Bd} (h1 : ble a b) (h2 : ble b c) : ble a c := by
  cases c with
  | none => trivial
  | some z => cases b with
    | none => exact absurd h2 ble_ns
    | some y => cases a with
      | none => exact absurd h1 ble_ns
      | some x => exact Int.le_trans h1 h2
theorem ble_s {a b : Bd} (h1 : ble a b) (h2 : ble b a) : a = b := by
  cases a with
  | none => cases b with
    | none => rfl
    | some y => exact absurd h1 ble_ns
  | some x => cases b with
    | none => exact absurd h2 ble_ns
    | some y => exact congrArg some (Int.le_antisymm h1 h2)
theorem ble_o (a b : Bd) : ble a b ∨ ble b a := by
  cases a with
  | none => exact Or.inr trivial
  | some x => cases b with
    | none => exact Or.inl trivial
    | some y => exact (Int.le_total x y)
theorem bad_c (a b : Bd) : bad a b = bad b a := by
  cases a <;> cases b <;> simp only [bad]
  rw [pz_c]
theorem bad_a (a b c : Bd) : bad (bad a b) c = bad a (bad b c) := by
  cases a <;> cases b <;> cases c <;> simp only [bad]
  rw [pz_a]
theorem bad_1 (a : Bd) : bad (some 1) a = a := by
  cases a <;> simp only [bad]
  rw [pz_1]
theorem bad_1r (a : Bd) : bad a (some 1) = a := by rw [bad_c, bad_1]
theorem bad_m {a b c d : Bd} (h1 : ble a c) (h2 : ble b d) : ble (bad a b) (bad c d) := by
  cases c with
  | none => exact trivial
  | some z => cases d with
    | none => exact trivial
    | some t => cases a with
      | none => exact absurd h1 ble_ns
      | some x => cases b with
        | none => exact absurd h2 ble_ns
        | some y => exact pz_m h1 h2
theorem bmn_l (a b : Bd) : ble (bmn a b) a := by
  cases a with
  | none => exact trivial
  | some x => cases b with
    | none => exact Int.le_refl x
    | some y => show (if y < x then y else x) ≤ x; split <;> omega
theorem bmn_r (a b : Bd) : ble (bmn a b) b := by
  cases b with
  | none => exact trivial
  | some y => cases a with
    | none => exact Int.le_refl y
    | some x => show (if y < x then y else x) ≤ y; split <;> omega
theorem bmn_o (a b : Bd) : bmn a b = a ∨ (bmn a b = b ∧ ¬ ble a b) := by
  cases b with
  | none => exact Or.inl rfl
  | some y => cases a with
    | none => exact Or.inr ⟨rfl, ble_ns⟩
    | some x =>
      by_cases h : y < x
      · exact Or.inr ⟨by show some (if y < x then y else x) = some y; rw [if_pos h], fun q => by have : x ≤ y := q; omega⟩
      · exact Or.inl (by show some (if y < x then y else x) = some x; rw [if_neg h])
theorem bmn_g {a b c : Bd} (h1 : ble c a) (h2 : ble c b) : ble c (bmn a b) := by
  rcases bmn_o a b with h | h
  · rw [h]; exact h1
  · rw [h.1]; exact h2
theorem bmn_eql {a b : Bd} (h : ble a b) : bmn a b = a := by
  rcases bmn_o a b with q | q
  · exact q
  · exact absurd h q.2
theorem bmn_eqr {a b : Bd} (h : ble b a) : bmn a b = b := ble_s (bmn_r a b) (bmn_g h (ble_r b))
/-- a sum that is at least "at most 0" adds nothing below -/
theorem bad_ge {a b : Bd} (h : ble (some 1) a) : ble b (bad a b) := by
  have := bad_m h (ble_r b)
  rw [bad_1] at this
  exact this
theorem bad_ger {a b : Bd} (h : ble (some 1) a) : ble b (bad b a) := by rw [bad_c]; exact bad_ge h
/-- a closed table of side n -/
def Cl (n : Nat) (C : Bt) : Prop := (∀ i, i < n → C i i = some 1) ∧ ∀ i j k, i < n → j < n → k < n → ble (C i j) (bad (C i k) (C k j))
def Bl (n : Nat) (C A : Bt) : Prop := ∀ i j, i < n → j < n → ble (C i j) (A i j)
def Gr (n : Nat) (A T : Bt) : Prop := Cl n T ∧ Bl n T A ∧ ∀ D, Cl n D → Bl n D A → Bl n D T
def Vd (n : Nat) (A : Bt) : Prop := ∀ D, Cl n D → ¬ Bl n D A
def Eqn (n : Nat) (A B : Bt) : Prop := ∀ i j, i < n → j < n → A i j = B i j
theorem Bl_t {n : Nat} {A B C : Bt} (h1 : Bl n A B) (h2 : Bl n B C) : Bl n A C := fun i j hi hj => ble_t (h1 i j hi hj) (h2 i j hi hj)
theorem Gr_u {n : Nat} {A T U : Bt} (h1 : Gr n A T) (h2 : Gr n A U) : Eqn n T U := fun i j hi hj => ble_s (h2.2.2 T h1.1 h1.2.1 i j hi hj) (h1.2.2 U h2.1 h2.2.1 i j hi hj)
theorem Gr_v {n : Nat} {A T : Bt} (h1 : Gr n A T) (h2 : Vd n A) : False := h2 T h1.1 h1.2.1
theorem Gr_self {n : Nat} {T : Bt} (h : Cl n T) : Gr n T T := ⟨h, fun _ _ _ _ => ble_r _, fun _ _ h => h⟩
/-- tables with the same closed ones below -/
def Sm (n : Nat) (A B : Bt) : Prop := ∀ D, Cl n D → (Bl n D A ↔ Bl n D B)
theorem Gr_sm {n : Nat} {A B T : Bt} (h : Sm n A B) (g : Gr n A T) : Gr n B T := ⟨g.1, (h T g.1).1 g.2.1, fun D hd hb => g.2.2 D hd ((h D hd).2 hb)⟩
theorem Vd_sm {n : Nat} {A B : Bt} (h : Sm n A B) (g : Vd n A) : Vd n B := fun D hd hb => g D hd ((h D hd).2 hb)
theorem Sm_r (n : Nat) (A : Bt) : Sm n A A := fun _ _ => Iff.rfl
theorem Sm_s {n : Nat} {A B : Bt} (h : Sm n A B) : Sm n B A := fun D hd => (h D hd).symm
theorem Sm_t {n : Nat} {A B C : Bt} (h : Sm n A B) (h' : Sm n B C) : Sm n A C := fun D hd => (h D hd).trans (h' D hd)
theorem Sm_e {n : Nat} {A B : Bt} (h : Eqn n A B) : Sm n A B := fun D _ => ⟨fun q i j hi hj => by rw [← h i j hi hj]; exact q i j hi hj, fun q i j hi hj => by rw [h i j hi hj]; exact q i j hi hj⟩
/-- a greatest closed table has the same closed ones below -/
theorem Sm_gr {n : Nat} {A T : Bt} (g : Gr n A T) : Sm n T A := fun D hd => ⟨fun h => Bl_t h g.2.1, fun h => g.2.2 D hd h⟩
theorem Cl_e {n : Nat} {A B : Bt} (h : Eqn n A B) (c : Cl n A) : Cl n B := by
  refine ⟨fun i hi => by rw [← h i i hi hi]; exact c.1 i hi, fun i j k hi hj hk => ?_⟩
  rw [← h i j hi hj, ← h i k hi hk, ← h k j hk hj]
  exact c.2 i j k hi hj hk
theorem Gr_e {n : Nat} {A T U : Bt} (h : Eqn n T U) (g : Gr n A T) : Gr n A U :=
  ⟨Cl_e h g.1, fun i j hi hj => by rw [← h i j hi hj]; exact g.2.1 i j hi hj, fun D hd hb i j hi hj => by rw [← h i j hi hj]; exact g.2.2 D hd hb i j hi hj⟩
theorem Eqn_s {n : Nat} {A B : Bt} (h : Eqn n A B) : Eqn n B A := fun i j hi hj => (h i j hi hj).symm
theorem Eqn_t {n : Nat} {A B C : Bt} (h : Eqn n A B) (h' : Eqn n B C) : Eqn n A C := fun i j hi hj => (h i j hi hj).trans (h' i j hi hj)
/-! One pivot, all at once. -/
def piv (k : Nat) (A : Bt) : Bt := fun i j => bmn (A i j) (bad (A i k) (A k j))
def cnt (k : Nat) (S : Nat → Bool) : Nat := match k with
  | 0 => 0
  | k + 1 => cnt k S + (if S k = true then 1 else 0)
theorem cnt_le (k : Nat) (S : Nat → Bool) : cnt k S ≤ k := by
  induction k with
  | zero => exact Nat.le_refl 0
  | succ k ih =>
    show cnt k S + (if S k = true then 1 else 0) ≤ k + 1
    split <;> omega
theorem cnt_e {k : Nat} {S S' : Nat → Bool} (h : ∀ p, p < k → S p = S' p) : cnt k S = cnt k S' := by
  induction k with
  | zero => rfl
  | succ k ih =>
    show cnt k S + (if S k = true then 1 else 0) = cnt k S' + (if S' k = true then 1 else 0)
    rw [ih (fun p hp => h p (by omega)), h k (by omega)]
theorem cnt_u {k : Nat} {S S' : Nat → Bool} (h : ∀ p, p < k → ¬ (S p = true ∧ S' p = true)) : cnt k (fun p => S p || S' p) = cnt k S + cnt k S' := by
  induction k with
  | zero => rfl
  | succ k ih =>
    show cnt k (fun p => S p || S' p) + (if (S k || S' k) = true then 1 else 0) = cnt k S + (if S k = true then 1 else 0) + (cnt k S' + (if S' k = true then 1 else 0))
    rw [ih (fun p hp => h p (by omega))]
    have := h k (by omega)
    cases hs : S k <;> cases hs' : S' k <;> simp [hs, hs'] at this ⊢ <;> omega
def bm (M : Int) (c : Nat) : Int := ((c : Int) + 1) * M
theorem bm_add (M : Int) (c d : Nat) : bm M (c + d + 1) = bm M c + bm M d := by
  unfold bm
  rw [← Int.add_mul]
  congr 1
  omega
theorem bm_le {M : Int} (hM : 0 ≤ M) {c d : Nat} (h : c ≤ d) : bm M c ≤ bm M d := by
  unfold bm
  exact Int.mul_le_mul_of_nonneg_right (by omega) hM
/-- how far the pivots are through -/
def Iv (n : Nat) (M : Int) (k : Nat) (A0 A : Bt) : Prop :=
  (∀ i j p, i < n → j < n → p < n → p < k → ble (A i j) (bad (A i p) (A p j))) ∧
  (∀ p, p < n → p < k → ble (some 1) (A p p)) ∧
  Bl n A A0 ∧ (∀ D, Cl n D → Bl n D A0 → Bl n D A) ∧
  (∀ i j x, i < n → j < n → A i j = some x → ∃ S : Nat → Bool, (∀ p, S p = true → p < k) ∧ -(bm M (cnt k S)) < x ∧ x < bm M (cnt k S) ∧ ∀ p, S p = true → ble (bad (A i p) (A p j)) (A i j))
theorem Iv_0 {n : Nat} {M : Int} {A : Bt} (hb : ∀ i j x, i < n → j < n → A i j = some x → -M < x ∧ x < M) : Iv n M 0 A A := by
  refine ⟨fun i j p _ _ _ h => absurd h (by omega), fun p _ h => absurd h (by omega), fun _ _ _ _ => ble_r _, fun _ _ h => h, ?_⟩
  intro i j x hi hj hx
  have e : bm M (cnt 0 (fun _ => false)) = M := by
    show (((0 : Nat) : Int) + 1) * M = M
    omega
  refine ⟨fun _ => false, fun p h => Bool.noConfusion h, ?_, ?_, fun p h => Bool.noConfusion h⟩
  · rw [e]; exact (hb i j x hi hj hx).1
  · rw [e]; exact (hb i j x hi hj hx).2
/-- the sum through a pivot, where it is less than what was there, is short -/
theorem Iv_sum {n : Nat} {M : Int} {k : Nat} {A0 A : Bt} (hk : k < n) (h : Iv n M k A0 A) (hkk : ble (some 1) (A k k)) {i j : Nat} (hi : i < n) (hj : j < n) {x y : Int} (hx : A i k = some x) (hy : A k j = some y) (hn : ¬ ble (A i j) (some (pz x y))) :
    ∃ S : Nat → Bool, (∀ p, S p = true → p < k + 1) ∧ -(bm M (cnt (k + 1) S)) < pz x y ∧ pz x y < bm M (cnt (k + 1) S) ∧ ∀ p, S p = true → p = k ∨ (ble (bad (A i p) (A p k)) (A i k)) ∨ (ble (bad (A k p) (A p j)) (A k j)) := by
  obtain ⟨h1, h2, h3, h4, h5⟩ := h
  obtain ⟨S1, a1, a2, a3, a4⟩ := h5 i k x hi hk hx
  obtain ⟨S2, b1, b2, b3, b4⟩ := h5 k j y hk hj hy
  have hd : ∀ p, p < k → ¬ (S1 p = true ∧ S2 p = true) := by
    intro p hp ⟨s1, s2⟩
    apply hn
    have e1 := a4 p s1
    have e2 := b4 p s2
    rw [hx] at e1
    rw [hy] at e2
    have e3 : ble (bad (bad (A i p) (A p k)) (bad (A k p) (A p j))) (some (pz x y)) := bad_m e1 e2
    refine ble_t ?_ e3
    rw [bad_a, ← bad_a (A p k)]
    refine ble_t (h1 i j p hi hj (by omega) hp) (bad_m (ble_r _) ?_)
    apply bad_ge
    rw [bad_c]
    exact ble_t hkk (h1 k k p hk hk (by omega) hp)
  refine ⟨fun p => (S1 p || S2 p) || decide (p = k), ?_, ?_⟩
  · intro p hp
    simp only [Bool.or_eq_true, decide_eq_true_eq] at hp
    rcases hp with (hp | hp) | hp
    · have := a1 p hp; omega
    · have := b1 p hp; omega
    · omega
  have hc : cnt (k + 1) (fun p => (S1 p || S2 p) || decide (p = k)) = cnt k S1 + cnt k S2 + 1 := by
    show cnt k (fun p => (S1 p || S2 p) || decide (p = k)) + (if ((S1 k || S2 k) || decide (k = k)) = true then 1 else 0) = _
    rw [if_pos (by simp), ← cnt_u hd]
    congr 1
    apply cnt_e
    intro p hp
    simp [show p ≠ k by omega]
  have hp := pz_lo x y
  rw [hc, bm_add]
  refine ⟨by omega, by omega, ?_⟩
  intro p hp
  simp only [Bool.or_eq_true, decide_eq_true_eq] at hp
  rcases hp with (hp | hp) | hp
  · exact Or.inr (Or.inl (a4 p hp))
  · exact Or.inr (Or.inr (b4 p hp))
  · exact Or.inl hp
theorem Iv_S {n : Nat} {M : Int} {k : Nat} {A0 A : Bt} (hk : k < n) (h : Iv n M k A0 A) (hkk : ble (some 1) (A k k)) : Iv n M (k + 1) A0 (piv k A) := by
  have h0 := h
  obtain ⟨h1, h2, h3, h4, h5⟩ := h
  have pl : ∀ i j, ble (piv k A i j) (A i j) := fun i j => bmn_l _ _
  have pr : ∀ i j, ble (piv k A i j) (bad (A i k) (A k j)) := fun i j => bmn_r _ _
  have ek : ∀ i, piv k A i k = A i k := fun i => bmn_eql (bad_ger hkk)
  have kj : ∀ j, piv k A k j = A k j := fun j => bmn_eql (bad_ge hkk)
  refine ⟨?_, ?_, Bl_t (fun i j _ _ => pl i j) h3, ?_, ?_⟩
  · intro i j p hi hj hp hpk
    by_cases e : p = k
    · subst e
      rw [ek, kj]
      exact pr i j
    · have hpk : p < k := by omega
      have c1 := h1 i j p hi hj hp hpk
      have c2 := h1 i k p hi hk hp hpk
      have c3 := h1 k j p hk hj hp hpk
      have c4 := h1 k k p hk hk hp hpk
      rcases bmn_o (A i p) (bad (A i k) (A k p)) with q | q <;> rcases bmn_o (A p j) (bad (A p k) (A k j)) with r | r
      · show ble _ (bad (bmn _ _) (bmn _ _))
        rw [q, r]
        exact ble_t (pl i j) c1
      · show ble _ (bad (bmn _ _) (bmn _ _))
        rw [q, r.1, ← bad_a]
        exact ble_t (pr i j) (bad_m c2 (ble_r _))
      · show ble _ (bad (bmn _ _) (bmn _ _))
        rw [q.1, r, bad_a]
        exact ble_t (pr i j) (bad_m (ble_r _) c3)
      · show ble _ (bad (bmn _ _) (bmn _ _))
        rw [q.1, r.1, bad_a, ← bad_a (A k p)]
        exact ble_t (pr i j) (bad_m (ble_r _) (bad_ge (ble_t hkk c4)))
  · intro p hp hpk
    by_cases e : p = k
    · subst e
      rw [ek]
      exact hkk
    · refine bmn_g (h2 p hp (by omega)) ?_
      rw [bad_c]
      exact ble_t hkk (h1 k k p hk hk hp (by omega))
  · intro D hd hb i j hi hj
    have hD := h4 D hd hb
    exact bmn_g (hD i j hi hj) (ble_t (hd.2 i j k hi hj hk) (bad_m (hD i k hi hk) (hD k j hk hj)))
  · intro i j x hi hj hx
    rcases bmn_o (A i j) (bad (A i k) (A k j)) with q | q
    · have hx' : A i j = some x := q.symm.trans hx
      obtain ⟨S, a1, a2, a3, a4⟩ := h5 i j x hi hj hx'
      have sk : S k = false := by
        cases hs : S k with
        | false => rfl
        | true => exact absurd (a1 k hs) (by omega)
      have e : cnt (k + 1) S = cnt k S := by
        show cnt k S + (if S k = true then 1 else 0) = _
        rw [sk, if_neg (by decide)]
        omega
      refine ⟨S, fun p hp => by have := a1 p hp; omega, by rw [e]; exact a2, by rw [e]; exact a3, fun p hp => ?_⟩
      have : piv k A i j = A i j := q
      rw [this]
      exact ble_t (bad_m (pl i p) (pl p j)) (a4 p hp)
    · have e : piv k A i j = bad (A i k) (A k j) := q.1
      cases hu : A i k with
      | none => rw [e, hu] at hx; exact absurd hx (by intro z; cases z)
      | some u =>
        cases hv : A k j with
        | none => rw [e, hu, hv] at hx; exact absurd hx (by intro z; cases z)
        | some v =>
          have hx' : x = pz u v := by
            rw [e, hu, hv] at hx
            exact (Option.some.inj hx).symm
          have hq := q.2
          rw [hu, hv] at hq
          obtain ⟨S, a1, a2, a3, a4⟩ := Iv_sum hk h0 hkk hi hj hu hv hq
          rw [← hx'] at a2 a3
          refine ⟨S, a1, a2, a3, fun p hp => ?_⟩
          rw [e]
          rcases a4 p hp with z | z | z
          · subst z
            rw [ek, kj]
            exact ble_r _
          · refine ble_t (bad_m (pl i p) (pr p j)) ?_
            rw [← bad_a]
            exact bad_m z (ble_r _)
          · refine ble_t (bad_m (pr i p) (pl p j)) ?_
            rw [bad_a]
            exact bad_m (ble_r _) z
/-- pivots that fall: nothing closed lies below -/
theorem Iv_void {n : Nat} {M : Int} {k : Nat} {A0 A : Bt} (h : Iv n M k A0 A) {i : Nat} (hi : i < n) (hkk : ¬ ble (some 1) (A i i)) : Vd n A0 := by
  intro D hd hb
  apply hkk
  have := h.2.2.2.1 D hd hb i i hi hi
  rw [hd.1 i hi] at this
  exact this
theorem Iv_end {n : Nat} {M : Int} {A0 A : Bt} (h : Iv n M n A0 A) (h0 : ∀ i, i < n → ble (A0 i i) (some 1)) : Gr n A0 A :=
  ⟨⟨fun i hi => ble_s (ble_t (h.2.2.1 i i hi hi) (h0 i hi)) (h.2.1 i hi hi), fun i j k hi hj hk => h.1 i j k hi hj hk hk⟩, h.2.2.1, h.2.2.2.1⟩
theorem Iv_bnd {n : Nat} {M : Int} (hM : 0 ≤ M) {k : Nat} {A0 A : Bt} (h : Iv n M k A0 A) {i j : Nat} {x : Int} (hi : i < n) (hj : j < n) (hx : A i j = some x) : -(bm M k) < x ∧ x < bm M k := by
  obtain ⟨S, a1, a2, a3, a4⟩ := h.2.2.2.2 i j x hi hj hx
  have := bm_le hM (cnt_le k S)
  omega
/-- in a table with bounds below M there is no closed one, or a greatest with bounds below (n + 1) M -/
def Bb (n : Nat) (M : Int) (A : Bt) : Prop := ∀ i j x, i < n → j < n → A i j = some x → -M < x ∧ x < M
theorem Iv_all {n : Nat} {M : Int} {A : Bt} (hb : Bb n M A) : ∀ k, k ≤ n → Vd n A ∨ ∃ B, Iv n M k A B := by
  intro k
  induction k with
  | zero => exact fun _ => Or.inr ⟨A, Iv_0 hb⟩
  | succ k ih =>
    intro hk
    rcases ih (by omega) with h | ⟨B, h⟩
    · exact Or.inl h
    · by_cases hkk : ble (some 1) (B k k)
      · exact Or.inr ⟨_, Iv_S hk h hkk⟩
      · exact Or.inl (Iv_void h hk hkk)
theorem Gr_ex {n : Nat} {M : Int} (hM : 0 ≤ M) {A : Bt} (hb : Bb n M A) (h0 : ∀ i, i < n → ble (A i i) (some 1)) : Vd n A ∨ ∃ T, Gr n A T ∧ Bb n (bm M n) T := by
  rcases Iv_all hb n (Nat.le_refl n) with h | ⟨B, h⟩
  · exact Or.inl h
  · exact Or.inr ⟨B, Iv_end h h0, fun i j x hi hj hx => Iv_bnd hM h hi hj hx⟩
theorem Gr_bb {n : Nat} {M : Int} (hM : 0 ≤ M) {A T : Bt} (hb : Bb n M A) (h0 : ∀ i, i < n → ble (A i i) (some 1)) (g : Gr n A T) : Bb n (bm M n) T := by
  rcases Gr_ex hM hb h0 with h | ⟨U, hu, hU⟩
  · exact (Gr_v g h).elim
  · intro i j x hi hj hx
    rw [Gr_u g hu i j hi hj] at hx
    exact hU i j x hi hj hx
theorem Bb_e {n : Nat} {M : Int} {A B : Bt} (h : Eqn n A B) (hb : Bb n M A) : Bb n M B := fun i j x hi hj hx => hb i j x hi hj ((h i j hi hj).trans hx)
theorem Bb_le {n : Nat} {M N : Int} {A : Bt} (h : M ≤ N) (hb : Bb n M A) : Bb n N A := fun i j x hi hj hx => by have := hb i j x hi hj hx; omega
