/-! What is done to closed tables: one bound more, time up and down, set, freed, joined, a clock more. -/
def lowB (i j : Nat) (b : Bd) (A : Bt) : Bt := fun k l => if k = i ∧ l = j then bmn (A k l) b else A k l
theorem lowB_none (i j : Nat) (A : Bt) : lowB i j none A = A := by
  funext k l
  unfold lowB
  split
  · rfl
  · rfl
theorem Bl_low {n i j : Nat} (hi : i < n) (hj : j < n) {b : Bd} {A D : Bt} : Bl n D (lowB i j b A) ↔ Bl n D A ∧ ble (D i j) b := by
  constructor
  · intro h
    refine ⟨fun k l hk hl => ?_, ?_⟩
    · have := h k l hk hl
      unfold lowB at this
      split at this
      · exact ble_t this (bmn_l _ _)
      · exact this
    · have := h i j hi hj
      unfold lowB at this
      rw [if_pos ⟨rfl, rfl⟩] at this
      exact ble_t this (bmn_r _ _)
  · intro h k l hk hl
    unfold lowB
    split
    · next e =>
      refine bmn_g (h.1 k l hk hl) ?_
      rw [e.1, e.2]
      exact h.2
    · exact h.1 k l hk hl
theorem Sm_low {n i j : Nat} (hi : i < n) (hj : j < n) {b : Bd} {A B : Bt} (h : Sm n A B) : Sm n (lowB i j b A) (lowB i j b B) := by
  intro D hd
  rw [Bl_low hi hj, Bl_low hi hj, h D hd]
theorem lowB_diag {n i j : Nat} {b : Bd} {A : Bt} (h : ∀ x, x < n → ble (A x x) (some 1)) : ∀ x, x < n → ble (lowB i j b A x x) (some 1) := by
  intro x hx
  unfold lowB
  split
  · exact ble_t (bmn_l _ _) (h x hx)
  · exact h x hx
theorem bmn_some {a b : Bd} {x : Int} (h : bmn a b = some x) : a = some x ∨ b = some x := by
  rcases bmn_o a b with q | q
  · exact Or.inl (q.symm.trans h)
  · exact Or.inr (q.1.symm.trans h)
theorem Bb_low {n i j : Nat} {M : Int} {b : Bd} {A : Bt} (h : Bb n M A) (hb : ∀ x, b = some x → -M < x ∧ x < M) : Bb n M (lowB i j b A) := by
  intro k l x hk hl hx
  unfold lowB at hx
  split at hx
  · rcases bmn_some hx with q | q
    · exact h k l x hk hl q
    · exact hb x q
  · exact h k l x hk hl hx
/-- a closed table with one bound more, at once -/
def tik (i j : Nat) (b : Bd) (C : Bt) : Bt := fun k l => bmn (C k l) (bad (bad (C k i) b) (C j l))
theorem tik_gr {n i j : Nat} (hi : i < n) (hj : j < n) {b : Bd} {C : Bt} (hc : Cl n C) (hb : ble (some 1) (bad b (C j i))) : Gr n (lowB i j b C) (tik i j b C) := by
  have tl : ∀ k l, ble (tik i j b C k l) (C k l) := fun k l => bmn_l _ _
  have tr : ∀ k l, ble (tik i j b C k l) (bad (bad (C k i) b) (C j l)) := fun k l => bmn_r _ _
  refine ⟨⟨fun k hk => ?_, fun k l m hk hl hm => ?_⟩, fun k l hk hl => ?_, fun D hd hD k l hk hl => ?_⟩
  · rw [← hc.1 k hk]
    refine bmn_eql ?_
    rw [hc.1 k hk]
    refine ble_t hb ?_
    rw [bad_c (C k i), bad_a]
    refine bad_m (ble_r b) ?_
    rw [bad_c]
    exact hc.2 j i k hj hi hk
  · have c1 := hc.2 k l m hk hl hm
    have c2 := hc.2 k i m hk hi hm
    have c3 := hc.2 j l m hj hl hm
    have c4 := hc.2 j i m hj hi hm
    rcases bmn_o (C k m) (bad (bad (C k i) b) (C j m)) with q | q <;> rcases bmn_o (C m l) (bad (bad (C m i) b) (C j l)) with r | r
    · show ble _ (bad (bmn _ _) (bmn _ _))
      rw [q, r]
      exact ble_t (tl k l) c1
    · show ble _ (bad (bmn _ _) (bmn _ _))
      rw [q, r.1, bad_a (C m i), ← bad_a]
      refine ble_t (tr k l) ?_
      rw [bad_a]
      exact bad_m c2 (ble_r _)
    · show ble _ (bad (bmn _ _) (bmn _ _))
      rw [q.1, r, bad_a]
      exact ble_t (tr k l) (bad_m (ble_r _) c3)
    · show ble _ (bad (bmn _ _) (bmn _ _))
      rw [q.1, r.1]
      refine ble_t (tr k l) ?_
      rw [bad_a (bad (C k i) b), ← bad_a (C j m), ← bad_a (C j m)]
      refine bad_m (ble_r _) ?_
      refine bad_ge ?_
      refine ble_t hb ?_
      rw [bad_c]
      exact bad_m c4 (ble_r _)
  · unfold lowB
    split
    · next e =>
      rw [e.1, e.2]
      refine bmn_g (tl i j) (ble_t (tr i j) ?_)
      rw [hc.1 i hi, hc.1 j hj, bad_1, bad_1r]
      exact ble_r _
    · exact tl k l
  · have h := (Bl_low hi hj).1 hD
    refine bmn_g (h.1 k l hk hl) ?_
    refine ble_t (hd.2 k l i hk hl hi) ?_
    rw [bad_a]
    refine bad_m (h.1 k i hk hi) (ble_t (hd.2 i l j hi hl hj) ?_)
    exact bad_m h.2 (h.1 j l hj hl)
theorem tik_vd {n i j : Nat} (hi : i < n) (hj : j < n) {b : Bd} {C : Bt} (hb : ¬ ble (some 1) (bad b (C j i))) : Vd n (lowB i j b C) := by
  intro D hd hD
  apply hb
  have h := (Bl_low hi hj).1 hD
  have := ble_t (hd.2 i i j hi hi hj) (bad_m h.2 (h.1 j i hj hi))
  rw [hd.1 i hi] at this
  exact this
theorem tik_no {n i j : Nat} (hi : i < n) (hj : j < n) {b : Bd} {C : Bt} (hc : Cl n C) (hb : ble (C i j) b) : Gr n (lowB i j b C) C := by
  refine ⟨hc, (Bl_low hi hj).2 ⟨fun _ _ _ _ => ble_r _, hb⟩, fun D _ hD => ((Bl_low hi hj).1 hD).1⟩
/-- row 0 has nothing above 0 -/
def Zr (n : Nat) (C : Bt) : Prop := ∀ j, j < n → ble (C 0 j) (some 1)
def upT (A : Bt) : Bt := fun i j => if j = 0 ∧ i ≠ 0 then none else A i j
theorem upT_cl {n : Nat} {C : Bt} (hc : Cl n C) : Cl n (upT C) := by
  refine ⟨fun i hi => ?_, fun i j k hi hj hk => ?_⟩
  · unfold upT
    rw [if_neg (fun h => h.2 h.1)]
    exact hc.1 i hi
  · unfold upT
    by_cases h1 : k = 0 ∧ i ≠ 0
    · rw [if_pos h1]
      exact trivial
    · by_cases h2 : j = 0 ∧ k ≠ 0
      · rw [if_neg h1, if_pos h2, bad_c]
        exact trivial
      · rw [if_neg h1, if_neg h2]
        by_cases h3 : j = 0 ∧ i ≠ 0
        · exfalso
          by_cases hk0 : k = 0
          · exact h1 ⟨hk0, h3.2⟩
          · exact h2 ⟨h3.1, hk0⟩
        · rw [if_neg h3]
          exact hc.2 i j k hi hj hk
theorem upT_zr {n : Nat} {C : Bt} (h : Zr n C) : Zr n (upT C) := by
  intro j hj
  unfold upT
  rw [if_neg (fun q => q.2 rfl)]
  exact h j hj
theorem upT_bb {n : Nat} {M : Int} {C : Bt} (h : Bb n M C) : Bb n M (upT C) := by
  intro i j x hi hj hx
  unfold upT at hx
  split at hx
  · cases hx
  · exact h i j x hi hj hx
/-- one clock is n: a copy of clock 0, moved -/
def setT (c : Nat) (a b : Int) (C : Bt) : Bt := fun x y => if x = c ∧ y ≠ c then bad (some a) (C 0 y) else if y = c ∧ x ≠ c then bad (C x 0) (some b) else C x y
theorem setT_cl {n c : Nat} (h0 : 0 < c) (hc : c < n) {a b : Int} (hab : pz a b = 1) {C : Bt} (h : Cl n C) : Cl n (setT c a b C) := by
  have hn : 0 < n := by omega
  have eab : bad (some a) (some b) = some 1 := congrArg some hab
  have eba : bad (some b) (some a) = some 1 := by rw [bad_c]; exact eab
  have e1 : ∀ y, y ≠ c → setT c a b C c y = bad (some a) (C 0 y) := fun y hy => by unfold setT; rw [if_pos ⟨rfl, hy⟩]
  have e2 : ∀ x, x ≠ c → setT c a b C x c = bad (C x 0) (some b) := fun x hx => by unfold setT; rw [if_neg (fun q => hx q.1), if_pos ⟨rfl, hx⟩]
  have e3 : ∀ x y, x ≠ c → y ≠ c → setT c a b C x y = C x y := fun x y hx hy => by unfold setT; rw [if_neg (fun q => hx q.1), if_neg (fun q => hy q.1)]
  have e4 : setT c a b C c c = some 1 := by unfold setT; rw [if_neg (fun q => q.2 rfl), if_neg (fun q => q.2 rfl)]; exact h.1 c hc
  refine ⟨fun i hi => ?_, fun i j k hi hj hk => ?_⟩
  · by_cases hic : i = c
    · rw [hic, e4]
    · rw [e3 i i hic hic]; exact h.1 i hi
  · by_cases hkc : k = c
    · by_cases hic : i = c
      · rw [hkc, hic, e4, bad_1]
        exact ble_r _
      · by_cases hjc : j = c
        · rw [hkc, hjc, e4, bad_1r]
          exact ble_r _
        · rw [hkc, e3 i j hic hjc, e1 j hjc, e2 i hic, bad_a, ← bad_a (some b), eba, bad_1]
          exact h.2 i j 0 hi hj hn
    · by_cases hic : i = c
      · by_cases hjc : j = c
        · rw [hic, hjc, e4, e1 k hkc, e2 k hkc, bad_a, ← bad_a (C 0 k), bad_c, bad_a, eba, bad_1r]
          have := h.2 0 0 k hn hn hk
          rw [h.1 0 hn] at this
          exact this
        · rw [hic, e1 j hjc, e1 k hkc, e3 k j hkc hjc, bad_a]
          exact bad_m (ble_r _) (h.2 0 j k hn hj hk)
      · by_cases hjc : j = c
        · rw [hjc, e2 i hic, e2 k hkc, e3 i k hic hkc, ← bad_a]
          exact bad_m (h.2 i 0 k hi hn hk) (ble_r _)
        · rw [e3 i j hic hjc, e3 i k hic hkc, e3 k j hkc hjc]
          exact h.2 i j k hi hj hk
theorem setT_zr {n c : Nat} (h0 : 0 < c) (hc : c < n) {a b : Int} (hb : b ≤ 1) {C : Bt} (h : Cl n C) (hz : Zr n C) : Zr n (setT c a b C) := by
  intro j hj
  unfold setT
  rw [if_neg (fun q => by omega)]
  split
  · rw [h.1 0 (by omega), bad_1]
    exact hb
  · exact hz j hj
theorem setT_bb {n c : Nat} (hn : 0 < n) {a b M N : Int} (ha : -N < a ∧ a < N) (hb : -N < b ∧ b < N) {C : Bt} (h : Bb n M C) : Bb n (M + N) (setT c a b C) := by
  intro i j x hi hj hx
  unfold setT at hx
  split at hx
  · cases hy : C 0 j with
    | none => rw [hy] at hx; cases hx
    | some y =>
      rw [hy] at hx
      have hx : some (pz a y) = some x := hx
      have := Option.some.inj hx
      have := h 0 j y hn hj hy
      have := pz_lo a y
      omega
  · split at hx
    · cases hy : C i 0 with
      | none => rw [hy] at hx; cases hx
      | some y =>
        rw [hy] at hx
        have hx : some (pz y b) = some x := hx
        have := Option.some.inj hx
        have := h i 0 y hi hn hy
        have := pz_lo y b
        omega
    · have := h i j x hi hj hx
      omega
/-- one clock is anything -/
def freT (c : Nat) (C : Bt) : Bt := fun x y => if x = c ∧ y ≠ c then none else if y = c ∧ x ≠ c then C x 0 else C x y
theorem freT_cl {n c : Nat} (h0 : 0 < c) (hc : c < n) {C : Bt} (h : Cl n C) : Cl n (freT c C) := by
  have hn : 0 < n := by omega
  have e1 : ∀ y, y ≠ c → freT c C c y = none := fun y hy => by unfold freT; rw [if_pos ⟨rfl, hy⟩]
  have e2 : ∀ x, x ≠ c → freT c C x c = C x 0 := fun x hx => by unfold freT; rw [if_neg (fun q => hx q.1), if_pos ⟨rfl, hx⟩]
  have e3 : ∀ x y, x ≠ c → y ≠ c → freT c C x y = C x y := fun x y hx hy => by unfold freT; rw [if_neg (fun q => hx q.1), if_neg (fun q => hy q.1)]
  have e4 : freT c C c c = some 1 := by unfold freT; rw [if_neg (fun q => q.2 rfl), if_neg (fun q => q.2 rfl)]; exact h.1 c hc
  refine ⟨fun i hi => ?_, fun i j k hi hj hk => ?_⟩
  · by_cases hic : i = c
    · rw [hic, e4]
    · rw [e3 i i hic hic]; exact h.1 i hi
  · by_cases hkc : k = c
    · by_cases hjc : j = c
      · rw [hkc, hjc, e4, bad_1r]; exact ble_r _
      · rw [hkc, e1 j hjc, bad_c]
        exact trivial
    · by_cases hic : i = c
      · rw [hic, e1 k hkc]; exact trivial
      · rw [e3 i k hic hkc]
        by_cases hjc : j = c
        · rw [hjc, e2 i hic, e2 k hkc]
          exact h.2 i 0 k hi hn hk
        · rw [e3 i j hic hjc, e3 k j hkc hjc]
          exact h.2 i j k hi hj hk
theorem freT_zr {n c : Nat} (h0 : 0 < c) (hn : 0 < n) {C : Bt} (h : Cl n C) (hz : Zr n C) : Zr n (freT c C) := by
  intro j hj
  unfold freT
  rw [if_neg (fun q => by omega)]
  split
  · rw [h.1 0 hn]; exact Int.le_refl 1
  · exact hz j hj
theorem freT_bb {n c : Nat} (hn : 0 < n) {M : Int} {C : Bt} (h : Bb n M C) : Bb n M (freT c C) := by
  intro i j x hi hj hx
  unfold freT at hx
  split at hx
  · cases hx
  · split at hx
    · exact h i 0 x hi hn hx
    · exact h i j x hi hj hx
/-- time down: the least of a column -/
def dnm (m : Nat) (C : Bt) (c : Nat) : Bd := itr m (fun j l => bmn l (C (j + 1) c)) (some 1)
theorem dnm_1 (m : Nat) (C : Bt) (c : Nat) : ble (dnm m C c) (some 1) := by
  induction m with
  | zero => exact ble_r _
  | succ m ih => exact ble_t (bmn_l _ _) ih
theorem dnm_l {m : Nat} {C : Bt} {c j : Nat} (h : j < m) : ble (dnm m C c) (C (j + 1) c) := by
  induction m with
  | zero => omega
  | succ m ih =>
    by_cases e : j = m
    · subst e; exact bmn_r _ _
    · exact ble_t (bmn_l _ _) (ih (by omega))
theorem dnm_o (m : Nat) (C : Bt) (c : Nat) : dnm m C c = some 1 ∨ ∃ j, j < m ∧ dnm m C c = C (j + 1) c := by
  induction m with
  | zero => exact Or.inl rfl
  | succ m ih =>
    have e : dnm (m + 1) C c = bmn (dnm m C c) (C (m + 1) c) := rfl
    rcases bmn_o (dnm m C c) (C (m + 1) c) with q | q
    · rcases ih with h | ⟨j, hj, h⟩
      · exact Or.inl (by rw [e, q, h])
      · exact Or.inr ⟨j, by omega, by rw [e, q, h]⟩
    · exact Or.inr ⟨m, by omega, by rw [e, q.1]⟩
def dnT (n : Nat) (C : Bt) : Bt := fun i j => if i = 0 ∧ j ≠ 0 then dnm (n - 1) C j else C i j
def dwT (C : Bt) : Bt := fun i j => if i = 0 ∧ j ≠ 0 then some 1 else C i j
theorem dnT_gr {n : Nat} {C : Bt} (h : Cl n C) (hz : Zr n C) : Gr n (dwT C) (dnT n C) := by
  have e0 : ∀ j, j ≠ 0 → dnT n C 0 j = dnm (n - 1) C j := fun j hj => by unfold dnT; rw [if_pos ⟨rfl, hj⟩]
  have e1 : ∀ i j, ¬ (i = 0 ∧ j ≠ 0) → dnT n C i j = C i j := fun i j hij => by unfold dnT; rw [if_neg hij]
  have ge : ∀ j, j < n → j ≠ 0 → ble (C 0 j) (dnm (n - 1) C j) := by
    intro j hj hj0
    rcases dnm_o (n - 1) C j with q | ⟨m, hm, q⟩
    · rw [q]; exact hz j hj
    · rw [q]
      refine ble_t (h.2 0 j (m + 1) (by omega) hj (by omega)) ?_
      have := bad_m (hz (m + 1) (by omega)) (ble_r (C (m + 1) j))
      rw [bad_1] at this
      exact this
  have gc : ∀ i j, i < n → j < n → ble (C i j) (dnT n C i j) := by
    intro i j hi hj
    by_cases hij : i = 0 ∧ j ≠ 0
    · rw [hij.1, e0 j hij.2]; exact ge j hj hij.2
    · rw [e1 i j hij]; exact ble_r _
  refine ⟨⟨fun i hi => ?_, fun i j k hi hj hk => ?_⟩, fun i j hi hj => ?_, fun D hd hD i j hi hj => ?_⟩
  · rw [e1 i i (fun q => q.2 q.1)]; exact h.1 i hi
  · by_cases hij : i = 0 ∧ j ≠ 0
    · by_cases hk0 : k = 0
      · rw [hk0, hij.1, e1 0 0 (fun q => q.2 rfl), h.1 0 (by omega), bad_1]
        exact ble_r _
      · rw [hij.1, e0 j hij.2, e0 k hk0, e1 k j (fun q => hk0 q.1)]
        rcases dnm_o (n - 1) C k with q | ⟨m, hm, q⟩
        · rw [q, bad_1]
          have := dnm_l (m := n - 1) (C := C) (c := j) (j := k - 1) (by omega)
          rw [show k - 1 + 1 = k by omega] at this
          exact this
        · rw [q]
          exact ble_t (dnm_l hm) (h.2 (m + 1) j k (by omega) hj hk)
    · rw [e1 i j hij]
      exact ble_t (h.2 i j k hi hj hk) (bad_m (gc i k hi hk) (gc k j hk hj))
  · unfold dwT
    by_cases hij : i = 0 ∧ j ≠ 0
    · rw [if_pos hij, hij.1, e0 j hij.2]; exact dnm_1 _ _ _
    · rw [if_neg hij, e1 i j hij]; exact ble_r _
  · have hq : ∀ i j, i < n → j < n → ¬ (i = 0 ∧ j ≠ 0) → ble (D i j) (C i j) := by
      intro i j hi hj hij
      have := hD i j hi hj
      unfold dwT at this
      rw [if_neg hij] at this
      exact this
    have hw : ∀ j, j < n → ble (D 0 j) (some 1) := by
      intro j hj
      have := hD 0 j (by omega) hj
      unfold dwT at this
      split at this
      · exact this
      · next e =>
        have ej : j = 0 := by
          by_cases z : j = 0
          · exact z
          · exact absurd ⟨rfl, z⟩ e
        rw [ej, hd.1 0 (by omega)]; exact ble_r _
    by_cases hij : i = 0 ∧ j ≠ 0
    · rw [hij.1, e0 j hij.2]
      rcases dnm_o (n - 1) C j with q | ⟨m, hm, q⟩
      · rw [q]; exact hw j hj
      · rw [q]
        refine ble_t (hd.2 0 j (m + 1) (by omega) hj (by omega)) ?_
        have := bad_m (hw (m + 1) (by omega)) (hq (m + 1) j (by omega) hj (fun q => by omega))
        rw [bad_1] at this
        exact this
    · rw [e1 i j hij]; exact hq i j hi hj hij
/-- the least table that has both -/
def bmx (a b : Bd) : Bd := match b with
  | none => none
  | some y => match a with
    | none => none
    | some x => some (if x < y then y else x)
theorem bmx_l (a b : Bd) : ble a (bmx a b) := by
  cases b with
  | none => exact trivial
  | some y => cases a with
    | none => exact trivial
    | some x => show x ≤ (if x < y then y else x); split <;> omega
theorem bmx_r (a b : Bd) : ble b (bmx a b) := by
  cases b with
  | none => exact trivial
  | some y => cases a with
    | none => exact trivial
    | some x => show y ≤ (if x < y then y else x); split <;> omega
theorem bmx_o (a b : Bd) : bmx a b = a ∨ bmx a b = b := by
  cases b with
  | none => exact Or.inr rfl
  | some y => cases a with
    | none => exact Or.inl rfl
    | some x =>
      by_cases h : x < y
      · exact Or.inr (by show some (if x < y then y else x) = _; rw [if_pos h])
      · exact Or.inl (by show some (if x < y then y else x) = _; rw [if_neg h])
def mxT (C D : Bt) : Bt := fun i j => bmx (C i j) (D i j)
theorem mxT_cl {n : Nat} {C D : Bt} (hc : Cl n C) (hd : Cl n D) : Cl n (mxT C D) := by
  refine ⟨fun i hi => ?_, fun i j k hi hj hk => ?_⟩
  · unfold mxT
    rw [hc.1 i hi, hd.1 i hi]
    rfl
  · rcases bmx_o (C i j) (D i j) with q | q
    · unfold mxT
      rw [q]
      exact ble_t (hc.2 i j k hi hj hk) (bad_m (bmx_l _ _) (bmx_l _ _))
    · unfold mxT
      rw [q]
      exact ble_t (hd.2 i j k hi hj hk) (bad_m (bmx_r _ _) (bmx_r _ _))
theorem mxT_zr {n : Nat} {C D : Bt} (hc : Zr n C) (hd : Zr n D) : Zr n (mxT C D) := by
  intro j hj
  rcases bmx_o (C 0 j) (D 0 j) with q | q
  · unfold mxT; rw [q]; exact hc j hj
  · unfold mxT; rw [q]; exact hd j hj
/-- one clock more that is as clock 0 -/
def stT (n : Nat) (C : Bt) : Bt := fun i j => if i = n then (if j = n then some 1 else C 0 j) else if j = n then C i 0 else C i j
def saT (n : Nat) (A : Bt) : Bt := fun i j => if i = n then (if j = n ∨ j = 0 then some 1 else none) else if j = n then (if i = 0 then some 1 else none) else A i j
theorem stT_cl {n : Nat} (hn : 0 < n) {C : Bt} (h : Cl n C) : Cl (n + 1) (stT n C) := by
  have e0 : stT n C n n = some 1 := by unfold stT; rw [if_pos rfl, if_pos rfl]
  have e1 : ∀ j, j ≠ n → stT n C n j = C 0 j := fun j hj => by unfold stT; rw [if_pos rfl, if_neg hj]
  have e2 : ∀ i, i ≠ n → stT n C i n = C i 0 := fun i hi => by unfold stT; rw [if_neg hi, if_pos rfl]
  have e3 : ∀ i j, i ≠ n → j ≠ n → stT n C i j = C i j := fun i j hi hj => by unfold stT; rw [if_neg hi, if_neg hj]
  refine ⟨fun i hi => ?_, fun i j k hi hj hk => ?_⟩
  · by_cases hin : i = n
    · rw [hin, e0]
    · rw [e3 i i hin hin]; exact h.1 i (by omega)
  · by_cases hin : i = n <;> by_cases hjn : j = n <;> by_cases hkn : k = n
    · rw [hin, hjn, hkn, e0, bad_1]; exact ble_r _
    · rw [hin, hjn, e0, e1 k hkn, e2 k hkn, ← h.1 0 hn]; exact h.2 0 0 k hn hn (by omega)
    · rw [hin, hkn, e0, bad_1]; exact ble_r _
    · rw [hin, e1 j hjn, e1 k hkn, e3 k j hkn hjn]; exact h.2 0 j k hn (by omega) (by omega)
    · rw [hjn, hkn, e0, bad_1r]; exact ble_r _
    · rw [hjn, e2 i hin, e3 i k hin hkn, e2 k hkn]; exact h.2 i 0 k (by omega) hn (by omega)
    · rw [hkn, e3 i j hin hjn, e2 i hin, e1 j hjn]; exact h.2 i j 0 (by omega) (by omega) hn
    · rw [e3 i j hin hjn, e3 i k hin hkn, e3 k j hkn hjn]; exact h.2 i j k (by omega) (by omega) (by omega)
theorem Cl_sub {n m : Nat} (h : m ≤ n) {C : Bt} (c : Cl n C) : Cl m C := ⟨fun i hi => c.1 i (by omega), fun i j k hi hj hk => c.2 i j k (by omega) (by omega) (by omega)⟩
theorem saT_iff {n : Nat} (hn : 0 < n) {A D : Bt} (hd : Cl (n + 1) D) : Bl (n + 1) D (saT n A) ↔ Bl n D A ∧ ble (D n 0) (some 1) ∧ ble (D 0 n) (some 1) := by
  constructor
  · intro h
    refine ⟨fun i j hi hj => ?_, ?_, ?_⟩
    · have := h i j (by omega) (by omega)
      unfold saT at this
      rw [if_neg (by omega), if_neg (by omega)] at this
      exact this
    · have := h n 0 (by omega) (by omega)
      unfold saT at this
      rw [if_pos rfl, if_pos (Or.inr rfl)] at this
      exact this
    · have := h 0 n (by omega) (by omega)
      unfold saT at this
      rw [if_neg (by omega), if_pos rfl, if_pos rfl] at this
      exact this
  · intro ⟨h1, h2, h3⟩ i j hi hj
    unfold saT
    split
    · next e =>
      split
      · next z =>
        rcases z with z | z
        · rw [e, z, hd.1 n (by omega)]; exact ble_r _
        · rw [e, z]; exact h2
      · exact trivial
    · split
      · next e =>
        split
        · next z => rw [e, z]; exact h3
        · exact trivial
      · exact h1 i j (by omega) (by omega)
theorem stT_gr {n : Nat} (hn : 0 < n) {A T : Bt} (g : Gr n A T) : Gr (n + 1) (saT n A) (stT n T) := by
  refine ⟨stT_cl hn g.1, (saT_iff hn (stT_cl hn g.1)).2 ⟨fun i j hi hj => ?_, ?_, ?_⟩, fun D hd hD i j hi hj => ?_⟩
  · unfold stT
    rw [if_neg (by omega), if_neg (by omega)]
    exact g.2.1 i j hi hj
  · unfold stT
    rw [if_pos rfl, if_neg (by omega), g.1.1 0 hn]; exact ble_r _
  · unfold stT
    rw [if_neg (by omega), if_pos rfl, g.1.1 0 hn]; exact ble_r _
  · obtain ⟨h1, h2, h3⟩ := (saT_iff hn hd).1 hD
    have h4 := g.2.2 D (Cl_sub (by omega) hd) h1
    unfold stT
    split
    · next e =>
      split
      · next z => rw [e, z, hd.1 n (by omega)]; exact ble_r _
      · rw [e]
        refine ble_t (hd.2 n j 0 (by omega) hj (by omega)) ?_
        have := bad_m h2 (h4 0 j hn (by omega))
        rw [bad_1] at this
        exact this
    · split
      · next e =>
        rw [e]
        refine ble_t (hd.2 i n 0 hi (by omega) (by omega)) ?_
        have := bad_m (h4 i 0 (by omega) hn) h3
        rw [bad_1r] at this
        exact this
      · exact h4 i j (by omega) (by omega)
theorem saT_vd {n : Nat} (hn : 0 < n) {A : Bt} (g : Vd n A) : Vd (n + 1) (saT n A) := fun D hd hD => g D (Cl_sub (by omega) hd) ((saT_iff hn hd).1 hD).1
