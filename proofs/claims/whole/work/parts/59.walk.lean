/-! A walk's table is a part of the square of times, moved. -/
def bsh (k : Int) (b : Bd) : Bd := match b with
  | none => none
  | some x => some (x + 2 * k)
theorem bsh_0 (b : Bd) : bsh 0 b = b := by
  cases b with
  | none => rfl
  | some x => show some (x + 2 * 0) = some x; congr 1; omega
theorem bsh_s (k l : Int) (b : Bd) : bsh k (bsh l b) = bsh (k + l) b := by
  cases b with
  | none => rfl
  | some x => show some (x + 2 * l + 2 * k) = some (x + 2 * (k + l)); congr 1; omega
theorem bsh_al (k : Int) (a b : Bd) : bad (bsh k a) b = bsh k (bad a b) := by
  cases a with
  | none => rfl
  | some x => cases b with
    | none => rfl
    | some y => show some (pz (x + 2 * k) y) = some (pz x y + 2 * k); congr 1; unfold pz; omega
theorem bsh_ar (k : Int) (a b : Bd) : bad a (bsh k b) = bsh k (bad a b) := by rw [bad_c, bsh_al, bad_c]
theorem bsh_mn (k : Int) (a b : Bd) : bsh k (bmn a b) = bmn (bsh k a) (bsh k b) := by
  cases b with
  | none => rfl
  | some y => cases a with
    | none => rfl
    | some x =>
      show some ((if y < x then y else x) + 2 * k) = some (if y + 2 * k < x + 2 * k then y + 2 * k else x + 2 * k)
      congr 1
      by_cases h : y < x
      · rw [if_pos h, if_pos (by omega)]
      · rw [if_neg h, if_neg (by omega)]
theorem bsh_le {k : Int} {a b : Bd} : ble (bsh k a) (bsh k b) ↔ ble a b := by
  cases b with
  | none => exact Iff.rfl
  | some y => cases a with
    | none => exact Iff.rfl
    | some x =>
      show x + 2 * k ≤ y + 2 * k ↔ x ≤ y
      omega
theorem bsh_m {k l : Int} (h : k = l) (b : Bd) : bsh k b = bsh l b := by rw [h]
/-- what clocks differ by, out of the times at which they were set -/
def Wz (T : Bt) (s : Nat → Nat) (β : Nat → Int) : Bt := fun i j => bsh (β i - β j) (T (s j) (s i))
theorem Wz_cl {N m : Nat} {T : Bt} {s : Nat → Nat} {β : Nat → Int} (hs : ∀ i, i < N → s i < m) (h : Cl m T) : Cl N (Wz T s β) := by
  refine ⟨fun i hi => ?_, fun i j k hi hj hk => ?_⟩
  · unfold Wz
    rw [h.1 _ (hs i hi), show β i - β i = 0 by omega, bsh_0]
  · unfold Wz
    rw [bsh_al, bsh_ar, bsh_s, bsh_m (show β i - β k + (β k - β j) = β i - β j by omega), bsh_le, bad_c]
    exact h.2 _ _ _ (hs j hj) (hs i hi) (hs k hk)
theorem Wz_tik {T : Bt} {s : Nat → Nat} {β : Nat → Int} {i j : Nat} {b : Bd} : tik i j b (Wz T s β) = Wz (tik (s j) (s i) (bsh (β j - β i) b) T) s β := by
  funext k l
  show bmn (bsh _ _) (bad (bad (bsh _ _) b) (bsh _ _)) = bsh _ (bmn _ (bad (bad _ (bsh _ b)) _))
  rw [bsh_mn]
  congr 1
  rw [bsh_ar, bsh_al, bsh_ar, bsh_al, bsh_al, bsh_s, bsh_s]
  rw [bsh_m (show β j - β l + (β k - β i) = β k - β l + (β j - β i) by omega)]
  congr 1
  rw [bad_c (T (s l) (s j)), bad_a, bad_c, bad_a]
theorem Wz_le {T : Bt} {s : Nat → Nat} {β : Nat → Int} {i j : Nat} {b : Bd} : ble (Wz T s β i j) b ↔ ble (T (s j) (s i)) (bsh (β j - β i) b) := by
  rw [← bsh_le (k := β j - β i)]
  unfold Wz
  rw [bsh_s, show β j - β i + (β i - β j) = 0 by omega, bsh_0]
theorem Wz_ad {T : Bt} {s : Nat → Nat} {β : Nat → Int} {i j : Nat} {b : Bd} : bad b (Wz T s β j i) = bad (bsh (β j - β i) b) (T (s i) (s j)) := by
  unfold Wz
  rw [bsh_ar, bsh_al]
/-- the class's walk: N clocks and zero, m moments, what is asked of them -/
def WS (N m : Nat) (K : Bt) (s : Nat → Nat) (β : Nat → Int) (q : Int × Mt) : Prop := (q.1 = 1 ∧ Vd m K) ∨ (q.1 = 0 ∧ NC N q.2 ∧ ∃ T, Gr m K T ∧ Eqn N (cT q.2) (Wz T s β))
def okW (N m : Nat) (K : Bt) (s : Nat → Nat) (β : Nat → Int) : Prop := N ≤ 6 ∧ m ≤ 60 ∧ Bb m 102 K ∧ (∀ x, x < m → ble (K x x) (some 1)) ∧ (∀ i, i < N → s i < m) ∧ (∀ i, i < N → 0 ≤ β i ∧ β i ≤ 50)
theorem bm60 {m : Nat} (h : m ≤ 60) : bm 102 m ≤ 6222 := by
  have := bm_le (M := 102) (by decide) h
  have e : bm 102 60 = 6222 := by decide
  omega
theorem Wz_bb {N m : Nat} {K T : Bt} {s : Nat → Nat} {β : Nat → Int} (ho : okW N m K s β) (g : Gr m K T) : Bb N 10000 (Wz T s β) := by
  obtain ⟨h1, h2, h3, h4, h5, h6⟩ := ho
  have hB := Gr_bb (by decide) h3 h4 g
  have := bm60 h2
  intro i j x hi hj hx
  unfold Wz at hx
  cases hy : T (s j) (s i) with
  | none => rw [hy] at hx; cases hx
  | some y =>
    rw [hy] at hx
    have hx := Option.some.inj (show some (y + 2 * (β i - β j)) = some x from hx)
    have := hB _ _ y (h5 j hj) (h5 i hi) hy
    have := h6 i hi
    have := h6 j hj
    omega
theorem WS_tig {N m : Nat} {K : Bt} {s : Nat → Nat} {β : Nat → Int} (ho : okW N m K s β) {i j : Nat} (hi : i < N) (hj : j < N) {b : Int} (hb : sml 10000 (cv b)) {q : Int × Mt} (h : WS N m K s β q) : WS N m (lowB (s j) (s i) (bsh (β j - β i) (cv b)) K) s β (zt N i j b q.1 q.2) := by
  have hsi := ho.2.2.2.2.1 i hi
  have hsj := ho.2.2.2.2.1 j hj
  obtain ⟨v, C⟩ := q
  rcases h with ⟨h1, h2⟩ | ⟨h1, h3, T, h2, h4⟩
  · have e : v = 1 := h1
    subst e
    rw [zt_1]
    exact Or.inl ⟨rfl, fun D hD hB => h2 D hD ((Bl_low hsj hsi).1 hB).1⟩
  · have e : v = 0 := h1
    subst e
    have h4 : Eqn N (cT C) (Wz T s β) := h4
    have hcl : Cl N (Wz T s β) := Wz_cl ho.2.2.2.2.1 h2.1
    have hB : Bb N 10000 (cT C) := Bb_e (Eqn_s h4) (Wz_bb ho h2)
    have hclC : Cl N (cT C) := Cl_e (Eqn_s h4) hcl
    have hN6 := bm6 (M := 10000) (by decide) ho.1
    have hC := zt_CS (i := i) (j := j) hi hj (by decide) (by omega) hB (Cl_diag hclC) hb (by decide) (Or.inr ⟨rfl, Gr_self hclC, h3⟩ : CS N (cT C) (0, C))
    have hsm : Sm N (lowB i j (cv b) (cT C)) (lowB i j (cv b) (Wz T s β)) := Sm_low hi hj (Sm_e h4)
    have hsT : Sm m (lowB (s j) (s i) (bsh (β j - β i) (cv b)) T) (lowB (s j) (s i) (bsh (β j - β i) (cv b)) K) := Sm_low hsj hsi (Sm_gr h2)
    by_cases hp : ble (some 1) (bad (cv b) (Wz T s β j i))
    · by_cases hq : ble (Wz T s β i j) (cv b)
      · have hg := tik_no hi hj hcl hq
        have hg2 := tik_no hsj hsi h2.1 (Wz_le.1 hq)
        rcases hC with ⟨_, x2⟩ | ⟨x1, x2, x3⟩
        · exact (Gr_v (Gr_sm (Sm_s hsm) hg) x2).elim
        · exact Or.inr ⟨x1, x3, T, Gr_sm hsT hg2, Gr_u x2 (Gr_sm (Sm_s hsm) hg)⟩
      · have hg := tik_gr hi hj hcl hp
        have hp2 : ble (some 1) (bad (bsh (β j - β i) (cv b)) (T (s i) (s j))) := by rw [← Wz_ad]; exact hp
        have hg2 := tik_gr hsj hsi h2.1 hp2
        rcases hC with ⟨_, x2⟩ | ⟨x1, x2, x3⟩
        · exact (Gr_v (Gr_sm (Sm_s hsm) hg) x2).elim
        · refine Or.inr ⟨x1, x3, _, Gr_sm hsT hg2, ?_⟩
          rw [← Wz_tik]
          exact Gr_u x2 (Gr_sm (Sm_s hsm) hg)
    · have hv := tik_vd hi hj (C := Wz T s β) hp
      have hv2 : Vd m (lowB (s j) (s i) (bsh (β j - β i) (cv b)) T) := tik_vd hsj hsi (by rw [← Wz_ad]; exact hp)
      rcases hC with ⟨x1, _⟩ | ⟨_, x2, _⟩
      · exact Or.inl ⟨x1, Vd_sm hsT hv2⟩
      · exact (Gr_v (Gr_sm hsm x2) hv).elim
/-! one moment more -/
def exK (m : Nat) (K : Bt) : Bt := fun i j => if i = m then (if j = m then some 1 else none) else if j = m then (if i + 1 = m then some 1 else none) else K i j
def exT (m : Nat) (T : Bt) : Bt := fun i j => if i = m then (if j = m then some 1 else none) else if j = m then T i (m - 1) else T i j
theorem exK_iff {m : Nat} (hm : 0 < m) {K D : Bt} (hd : Cl (m + 1) D) : Bl (m + 1) D (exK m K) ↔ Bl m D K ∧ ble (D (m - 1) m) (some 1) := by
  constructor
  · intro h
    refine ⟨fun i j hi hj => ?_, ?_⟩
    · have := h i j (by omega) (by omega)
      unfold exK at this
      rw [if_neg (by omega), if_neg (by omega)] at this
      exact this
    · have := h (m - 1) m (by omega) (by omega)
      unfold exK at this
      rw [if_neg (by omega), if_pos rfl, if_pos (by omega)] at this
      exact this
  · intro ⟨h1, h2⟩ i j hi hj
    unfold exK
    split
    · next e =>
      split
      · next z => rw [e, z, hd.1 m (by omega)]; exact ble_r _
      · exact trivial
    · split
      · next e =>
        split
        · next z => rw [e, show i = m - 1 by omega]; exact h2
        · exact trivial
      · exact h1 i j (by omega) (by omega)
theorem exT_cl {m : Nat} (hm : 0 < m) {T : Bt} (h : Cl m T) : Cl (m + 1) (exT m T) := by
  have e0 : exT m T m m = some 1 := by unfold exT; rw [if_pos rfl, if_pos rfl]
  have e1 : ∀ j, j ≠ m → exT m T m j = none := fun j hj => by unfold exT; rw [if_pos rfl, if_neg hj]
  have e2 : ∀ i, i ≠ m → exT m T i m = T i (m - 1) := fun i hi => by unfold exT; rw [if_neg hi, if_pos rfl]
  have e3 : ∀ i j, i ≠ m → j ≠ m → exT m T i j = T i j := fun i j hi hj => by unfold exT; rw [if_neg hi, if_neg hj]
  refine ⟨fun i hi => ?_, fun i j k hi hj hk => ?_⟩
  · by_cases z : i = m
    · rw [z, e0]
    · rw [e3 i i z z]; exact h.1 i (by omega)
  · by_cases zk : k = m
    · by_cases zj : j = m
      · rw [zk, zj, e0, bad_1r]; exact ble_r _
      · rw [zk, e1 j zj, bad_c]; exact trivial
    · by_cases zi : i = m
      · rw [zi, e1 k zk]; exact trivial
      · rw [e3 i k zi zk]
        by_cases zj : j = m
        · rw [zj, e2 i zi, e2 k zk]; exact h.2 i (m - 1) k (by omega) (by omega) (by omega)
        · rw [e3 i j zi zj, e3 k j zk zj]; exact h.2 i j k (by omega) (by omega) (by omega)
theorem exT_gr {m : Nat} (hm : 0 < m) {K T : Bt} (g : Gr m K T) : Gr (m + 1) (exK m K) (exT m T) := by
  refine ⟨exT_cl hm g.1, (exK_iff hm (exT_cl hm g.1)).2 ⟨fun i j hi hj => ?_, ?_⟩, fun D hd hD i j hi hj => ?_⟩
  · unfold exT
    rw [if_neg (by omega), if_neg (by omega)]
    exact g.2.1 i j hi hj
  · unfold exT
    rw [if_neg (by omega), if_pos rfl, g.1.1 (m - 1) (by omega)]; exact ble_r _
  · obtain ⟨h1, h2⟩ := (exK_iff hm hd).1 hD
    have h4 := g.2.2 D (Cl_sub (by omega) hd) h1
    unfold exT
    split
    · next e =>
      split
      · next z => rw [e, z, hd.1 m (by omega)]; exact ble_r _
      · exact trivial
    · split
      · next e =>
        rw [e]
        refine ble_t (hd.2 i m (m - 1) hi (by omega) (by omega)) ?_
        have := bad_m (h4 i (m - 1) (by omega) (by omega)) h2
        rw [bad_1r] at this
        exact this
      · exact h4 i j (by omega) (by omega)
theorem exK_vd {m : Nat} (hm : 0 < m) {K : Bt} (g : Vd m K) : Vd (m + 1) (exK m K) := fun D hd hD => g D (Cl_sub (by omega) hd) ((exK_iff hm hd).1 hD).1
/-- time goes on to a new moment -/
theorem WS_up {N m : Nat} (hm : 0 < m) {K : Bt} {s : Nat → Nat} {β : Nat → Int} (hs : ∀ i, i < N → s i < m) (h0 : s 0 = m - 1) {q : Int × Mt} (h : WS N m K s β q) : WS N (m + 1) (exK m K) (fun i => if i = 0 then m else s i) β (q.1, zup N q.2) := by
  rcases h with ⟨h1, h2⟩ | ⟨h1, h3, T, h2, h4⟩
  · exact Or.inl ⟨h1, exK_vd hm h2⟩
  · refine Or.inr ⟨h1, fun i j hi hj => ?_, _, exT_gr hm h2, fun i j hi hj => ?_⟩
    · have := h3 i j hi hj
      show -100000000 < (if j = 0 ∧ 1 ≤ i ∧ i < N then 268435456 else q.2 i j) ∧ (if j = 0 ∧ 1 ≤ i ∧ i < N then 268435456 else q.2 i j) ≤ 268435456 ∧ ((if j = 0 ∧ 1 ≤ i ∧ i < N then 268435456 else q.2 i j) < 100000000 ∨ (if j = 0 ∧ 1 ≤ i ∧ i < N then 268435456 else q.2 i j) = 268435456)
      split
      · exact ⟨by decide, by decide, Or.inr rfl⟩
      · exact this
    · show cv (if j = 0 ∧ 1 ≤ i ∧ i < N then 268435456 else q.2 i j) = bsh (β i - β j) (exT m T (if j = 0 then m else s j) (if i = 0 then m else s i))
      have h4' : cv (q.2 i j) = bsh (β i - β j) (T (s j) (s i)) := h4 i j hi hj
      by_cases zj : j = 0
      · by_cases zi : i = 0
        · rw [if_neg (by omega), if_pos zj, if_pos zi, h4', zi, zj, h2.1.1 (s 0) (hs 0 (by omega))]
          unfold exT
          rw [if_pos rfl, if_pos rfl]
        · rw [if_pos (by omega : j = 0 ∧ 1 ≤ i ∧ i < N), if_pos zj, if_neg zi]
          unfold exT
          rw [if_pos rfl, if_neg (by have := hs i hi; omega)]
          exact cv_n (by decide)
      · rw [if_neg (by omega : ¬ (j = 0 ∧ 1 ≤ i ∧ i < N)), if_neg zj, h4']
        have z1 := hs j hj
        by_cases zi : i = 0
        · rw [if_pos zi, zi, h0]
          unfold exT
          rw [if_neg (by omega), if_pos rfl]
        · rw [if_neg zi]
          have z2 := hs i hi
          unfold exT
          rw [if_neg (by omega), if_neg (by omega)]
/-- a clock is set now -/
theorem WS_set {N m c : Nat} (h0 : 0 < c) (hc : c < N) {K : Bt} {s : Nat → Nat} {β : Nat → Int} (ho : okW N m K s β) (hz : β 0 = 0) {k : Int} (hk : 0 ≤ k ∧ k ≤ 50) {q : Int × Mt} (h : WS N m K s β q) : WS N m K (fun i => if i = c then s 0 else s i) (fun i => if i = c then k else β i) (q.1, zas N c (am k) (am (mj_w (-k))) q.2) := by
  rcases h with ⟨h1, h2⟩ | ⟨h1, h3, T, h2, h4⟩
  · exact Or.inl ⟨h1, h2⟩
  · have hB : Bb N 10000 (cT q.2) := Bb_e (Eqn_s h4) (Wz_bb ho h2)
    have hN : 0 < N := by omega
    rw [w_id (by omega), am_id (by omega), am_id (by omega)]
    have k1 : cv (2 * k + 1) = some (2 * k + 1) := cv_s (by omega)
    have k2 : cv (2 * -k + 1) = some (2 * -k + 1) := cv_s (by omega)
    have s1 : sml 100000000 (cv (2 * k + 1)) := fun x hx => by have := cv_i hx; omega
    have s2 : sml 100000000 (cv (2 * -k + 1)) := fun x hx => by have := cv_i hx; omega
    have hsh : ∀ (y : Int) (b : Bd), bad (some (2 * y + 1)) b = bsh y b := by
      intro y b
      cases b with
      | none => rfl
      | some x => show some (pz (2 * y + 1) x) = some (x + 2 * y); congr 1; unfold pz; omega
    have e : Eqn N (cT (zas N c (2 * k + 1) (2 * -k + 1) q.2)) (Wz T (fun i => if i = c then s 0 else s i) (fun i => if i = c then k else β i)) := by
      intro i j hi hj
      show cv (zas N c (2 * k + 1) (2 * -k + 1) q.2 i j) = bsh ((if i = c then k else β i) - (if j = c then k else β j)) (T (if j = c then s 0 else s j) (if i = c then s 0 else s i))
      unfold zas
      have h4' : ∀ i j, i < N → j < N → cv (q.2 i j) = bsh (β i - β j) (T (s j) (s i)) := fun i j hi hj => h4 i j hi hj
      by_cases zi : i = c
      · by_cases zj : j = c
        · rw [if_neg (by omega : ¬ (i = c ∧ j < N ∧ j ≠ c)), if_neg (by omega : ¬ (j = c ∧ i < N ∧ i ≠ c)), if_pos zi, if_pos zj, if_pos zi, if_pos zj, h4' i j hi hj, zi, zj, h2.1.1 _ (ho.2.2.2.2.1 c hc), h2.1.1 _ (ho.2.2.2.2.1 0 hN)]
          exact bsh_m (by omega) _
        · rw [if_pos (by omega : i = c ∧ j < N ∧ j ≠ c), if_pos zi, if_neg zj, if_pos zi, if_neg zj, cp_bad s1 (sml_le (by decide) (Bb_sml hB hN hj)), k1, hsh]
          show bsh k (cv (q.2 0 j)) = _
          rw [h4' 0 j hN hj, bsh_s]
          exact bsh_m (by omega) _
      · by_cases zj : j = c
        · rw [if_neg (by omega : ¬ (i = c ∧ j < N ∧ j ≠ c)), if_pos (by omega : j = c ∧ i < N ∧ i ≠ c), if_neg zi, if_pos zj, if_neg zi, if_pos zj, cp_bad (sml_le (by decide) (Bb_sml hB hi hN)) s2, k2, bad_c, hsh]
          show bsh (-k) (cv (q.2 i 0)) = _
          rw [h4' i 0 hi hN, bsh_s]
          exact bsh_m (by omega) _
        · rw [if_neg (by omega : ¬ (i = c ∧ j < N ∧ j ≠ c)), if_neg (by omega : ¬ (j = c ∧ i < N ∧ i ≠ c)), if_neg zi, if_neg zj, if_neg zi, if_neg zj]
          exact h4' i j hi hj
    refine Or.inr ⟨h1, ?_, T, h2, e⟩
    have hB2 : Bb N 20000 (cT (zas N c (2 * k + 1) (2 * -k + 1) q.2)) := by
      refine Bb_e (Eqn_s e) (Bb_le (M := 10000) (by decide) (Wz_bb (K := K) ?_ h2))
      refine ⟨ho.1, ho.2.1, ho.2.2.1, ho.2.2.2.1, fun i hi => ?_, fun i hi => ?_⟩
      · show (if i = c then s 0 else s i) < m
        split
        · exact ho.2.2.2.2.1 0 hN
        · exact ho.2.2.2.2.1 i hi
      · show 0 ≤ (if i = c then k else β i) ∧ (if i = c then k else β i) ≤ 50
        split
        · exact hk
        · exact ho.2.2.2.2.2 i hi
    refine Bb_NC (by decide) hB2 (fun i j hi hj => ?_)
    show zas N c (2 * k + 1) (2 * -k + 1) q.2 i j ≤ 268435456
    unfold zas
    split
    · exact cp_le s1 (sml_le (by decide) (Bb_sml hB hN hj))
    · split
      · exact cp_le (sml_le (by decide) (Bb_sml hB hi hN)) s2
      · exact (h3 i j hi hj).2.1
