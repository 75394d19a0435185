/-! The same table in the class and in the reference. -/
/-- class q, reference r: both empty, or the same closed table with bounds below M -/
def TS (n : Nat) (M : Int) (q r : Int × Mt) : Prop := (q.1 = 1 ∧ r.1 = 1) ∨ (q.1 = 0 ∧ r.1 = 0 ∧ Cl n (cT q.2) ∧ Zr n (cT q.2) ∧ Bb n M (cT q.2) ∧ Eqn n (cT q.2) (rT r.2) ∧ NC n q.2 ∧ NI n r.2)
theorem TS_01 {n : Nat} {M : Int} {q r : Int × Mt} (h : TS n M q r) : (q.1 = 0 ∨ q.1 = 1) ∧ (r.1 = 0 ∨ r.1 = 1) ∧ q.1 = r.1 := by
  rcases h with h | h
  · exact ⟨Or.inr h.1, Or.inr h.2, h.1.trans h.2.symm⟩
  · exact ⟨Or.inl h.1, Or.inl h.2.1, h.1.trans h.2.1.symm⟩
theorem TS_le {n : Nat} {M N : Int} (hM : M ≤ N) {q r : Int × Mt} (h : TS n M q r) : TS n N q r := by
  rcases h with h | ⟨h1, h2, h3, h4, h5, h6⟩
  · exact Or.inl h
  · exact Or.inr ⟨h1, h2, h3, h4, Bb_le hM h5, h6⟩
theorem TS_of {n : Nat} {M : Int} (hM : 0 ≤ M) {A B : Bt} (hs : Sm n A B) (hA : Bb n M A) (hd : ∀ x, x < n → ble (A x x) (some 1)) (hz : Zr n A) {q r : Int × Mt} (h1 : CS n A q) (h2 : RS n B r) : TS n (bm M n) q r := by
  rcases h1 with ⟨a1, a2⟩ | ⟨a1, a2, a3⟩
  · rcases h2 with ⟨b1, b2⟩ | ⟨b1, b2, b3⟩
    · exact Or.inl ⟨a1, b1⟩
    · exact (Gr_v b2 (Vd_sm hs a2)).elim
  · rcases h2 with ⟨b1, b2⟩ | ⟨b1, b2, b3⟩
    · exact (Gr_v a2 (Vd_sm (Sm_s hs) b2)).elim
    · refine Or.inr ⟨a1, b1, a2.1, fun j hj => ?_, Gr_bb hM hA hd a2, Gr_u (Gr_sm hs a2) b2, a3, b3⟩
      exact ble_t (a2.2.1 0 j (by omega) hj) (hz j hj)
/-! void stays void -/
theorem zt_1 (n i j : Nat) (b : Int) (C : Mt) : zt n i j b 1 C = (1, C) := by
  unfold zt
  rw [if_pos (show ¬ ((1 : Int) = 0) by decide)]
theorem zt_v {n i j : Nat} {b v : Int} {C : Mt} (h : v = 1) : (zt n i j b v C).1 = 1 := by rw [h, zt_1]
theorem zkr_v {f : mj_F} {p n l m : Nat} {q : Int × Mt} (h : q.1 = 1) : (zkr f p n l m q).1 = 1 := by
  induction m with
  | zero => exact h
  | succ m ih => exact zt_v (zt_v ih)
theorem rcl_v {n : Nat} {q : Int × Mt} (h : q.1 = 1) : (rcl n q).1 = 1 := by
  unfold rcl
  rw [h]
  exact ngv_1 n _
/-! rules of a list -/
theorem lowL_congr {m : Nat} {cl re nu cl' re' nu' : Nat → Int} (h : ∀ k, k < m → cl k = cl' k ∧ re k = re' k ∧ nu k = nu' k) (A : Bt) : lowL m cl re nu A = lowL m cl' re' nu' A := by
  induction m with
  | zero => rfl
  | succ m ih =>
    show lowR _ 0 _ _ (lowL m cl re nu A) = lowR _ 0 _ _ (lowL m cl' re' nu' A)
    obtain ⟨h1, h2, h3⟩ := h m (by omega)
    rw [ih (fun k hk => h k (by omega)), h1, h2, h3]
/-- list l of the class's plan p is the reference's, and in order for n - 1 clocks -/
def sL (f : mj_F) (p n l : Nat) : Prop := ∃ m : Nat, m ≤ 6 ∧ f (p + 4) l = (m : Int) ∧ f 224 l = (m : Int) ∧ (∀ k, k < m → f (p + 5) (6 * l + k) = f 225 (6 * l + k) ∧ f (p + 6) (6 * l + k) = f 226 (6 * l + k) ∧ f (p + 7) (6 * l + k) = f 227 (6 * l + k)) ∧ okL n m (fun k => f 225 (6 * l + k)) (fun k => f 226 (6 * l + k)) (fun k => f 227 (6 * l + k))
theorem sL_mono {f : mj_F} {p n m l : Nat} (h : n ≤ m) (s : sL f p n l) : sL f p m l := by
  obtain ⟨a, h1, h2, h3, h4, h5⟩ := s
  exact ⟨a, h1, h2, h3, h4, fun k hk => by have := h5 k hk; exact ⟨this.1, by omega, this.2.2⟩⟩
theorem sL_okr {f : mj_F} {p n l : Nat} (hn : n ≤ 5) (s : sL f p n l) : okr f p l ∧ mkr f l := by
  obtain ⟨a, h1, h2, h3, h4, h5⟩ := s
  refine ⟨⟨a, h2, h1, fun k hk => ?_⟩, ⟨a, h3, h1, fun k hk => ?_⟩⟩
  · have t : 0 ≤ f 225 (6 * l + k) ∧ (f 225 (6 * l + k)).toNat + 1 < n ∧ _ := h5 k hk
    rw [(h4 k hk).1]
    omega
  · have t : 0 ≤ f 225 (6 * l + k) ∧ (f 225 (6 * l + k)).toNat + 1 < n ∧ _ := h5 k hk
    omega
def lF (f : mj_F) (l : Nat) (A : Bt) : Bt := lowL (f 224 l).toNat (fun k => f 225 (6 * l + k)) (fun k => f 226 (6 * l + k)) (fun k => f 227 (6 * l + k)) A
theorem tg_ni {n i j : Nat} {A : Mt} {b : Int} (hb : -1000000 < b) (h : NI n A) : NI n (tg A i j b) := by
  intro x y hx hy
  have h1 := h x y hx hy
  have h2 := tg_le A i j b x y
  refine ⟨?_, by omega⟩
  unfold tg
  split
  · unfold um
    split
    · exact hb
    · omega
  · omega
theorem rmt_ni {n i j : Nat} {A : Mt} {rel x : Int} (hx : -1000 ≤ x ∧ x ≤ 1000) (h : NI n A) : NI n (rmt i j rel x A) := by
  unfold rmt
  rw [am_id (n := x) (by omega), w_id (a := -x) (by omega), am_id (n := -x) (by omega), w_id (a := 2 * x) (by omega), w_id (a := (-2) * x) (by omega)]
  have h1 : NI n (if rel ≤ 2 then tg A i j (if rel = 0 then 2 * x else 2 * x + 1) else A) := by
    split
    · exact tg_ni (by split <;> omega) h
    · exact h
  split
  · exact tg_ni (by split <;> omega) h1
  · exact h1
theorem rmt_le {A : Mt} {i j : Nat} {rel k : Int} (x y : Nat) : rmt i j rel k A x y ≤ A x y := by
  unfold rmt
  have h1 : (if rel ≤ 2 then tg A i j (if rel = 0 then mj_w (2 * k) else am k) else A) x y ≤ A x y := by
    split
    · exact tg_le _ _ _ _ _ _
    · exact Int.le_refl _
  split
  · exact Int.le_trans (tg_le _ _ _ _ _ _) h1
  · exact h1
theorem rwh_ok {f : mj_F} {n l m : Nat} {A : Mt} (ho : okL n m (fun k => f 225 (6 * l + k)) (fun k => f 226 (6 * l + k)) (fun k => f 227 (6 * l + k))) (h : NI n A) : NI n (rwh f l m A) ∧ ∀ x y, rwh f l m A x y ≤ A x y := by
  induction m with
  | zero => exact ⟨h, fun _ _ => Int.le_refl _⟩
  | succ m ih =>
    obtain ⟨h1, h2⟩ := ih (fun k hk => ho k (by omega))
    have t : 0 ≤ f 225 (6 * l + m) ∧ (f 225 (6 * l + m)).toNat + 1 < n ∧ 0 ≤ f 226 (6 * l + m) ∧ f 226 (6 * l + m) ≤ 4 ∧ 0 ≤ f 227 (6 * l + m) ∧ f 227 (6 * l + m) ≤ 50 := ho m (by omega)
    exact ⟨rmt_ni (by omega) h1, fun x y => Int.le_trans (rmt_le x y) (h2 x y)⟩
theorem diag_rT {n : Nat} {C A : Mt} (hc : Cl n (cT C)) (he : Eqn n (cT C) (rT A)) : ∀ i, i < n → A i i = 1 := by
  intro i hi
  have h1 := hc.1 i hi
  rw [he i i hi hi] at h1
  exact (rv_i h1).1
theorem Cl_diag {n : Nat} {C : Bt} (h : Cl n C) : ∀ x, x < n → ble (C x x) (some 1) := fun x hx => by rw [h.1 x hx]; exact ble_r _
theorem lowB_le (i j : Nat) (b : Bd) (A : Bt) (k l : Nat) : ble (lowB i j b A k l) (A k l) := by
  unfold lowB
  split
  · exact bmn_l _ _
  · exact ble_r _
theorem lowR_le (i j : Nat) (rel x : Int) (A : Bt) (k l : Nat) : ble (lowR i j rel x A k l) (A k l) := ble_t (lowB_le _ _ _ _ _ _) (lowB_le _ _ _ _ _ _)
theorem lowL_le (m : Nat) (cl re nu : Nat → Int) (A : Bt) (k l : Nat) : ble (lowL m cl re nu A k l) (A k l) := by
  induction m with
  | zero => exact ble_r _
  | succ m ih => exact ble_t (lowR_le _ _ _ _ _ _ _) ih
theorem Zr_le {n : Nat} {A B : Bt} (h : ∀ j, j < n → ble (A 0 j) (B 0 j)) (hz : Zr n B) : Zr n A := fun j hj => ble_t (h j hj) (hz j hj)
theorem bm_big {M : Int} (hM : 0 ≤ M) (n : Nat) : M ≤ bm M n := by
  have := bm_le hM (show 0 ≤ n by omega)
  have e : bm M 0 = M := by unfold bm; omega
  omega
/-- 1: whens of a list kept -/
theorem TS_keep {f : mj_F} {p n l : Nat} (hs : sL f p n l) {M : Int} (hM : 102 ≤ M) (hb : bm M n ≤ 1000000) {q r : Int × Mt} (h : TS n M q r) : TS n (bm M n) (zkl f p n l q) (rwc f n l r) := by
  obtain ⟨m, h1, h2, h3, h4, h5⟩ := hs
  rcases h with ⟨a, b⟩ | ⟨a, b, c1, c2, c3, c4, c5, c6⟩
  · exact Or.inl ⟨zkr_v a, rcl_v b⟩
  · have e : lowL m (fun k => f (p + 5) (6 * l + k)) (fun k => f (p + 6) (6 * l + k)) (fun k => f (p + 7) (6 * l + k)) (cT q.2) = lowL m (fun k => f 225 (6 * l + k)) (fun k => f 226 (6 * l + k)) (fun k => f 227 (6 * l + k)) (cT q.2) := lowL_congr h4 _
    have ho : okL n m (fun k => f (p + 5) (6 * l + k)) (fun k => f (p + 6) (6 * l + k)) (fun k => f (p + 7) (6 * l + k)) := by
      intro k hk
      have t := h5 k hk
      obtain ⟨e1, e2, e3⟩ := h4 k hk
      show 0 ≤ f (p + 5) (6 * l + k) ∧ (f (p + 5) (6 * l + k)).toNat + 1 < n ∧ 0 ≤ f (p + 6) (6 * l + k) ∧ f (p + 6) (6 * l + k) ≤ 4 ∧ 0 ≤ f (p + 7) (6 * l + k) ∧ f (p + 7) (6 * l + k) ≤ 50
      rw [e1, e2, e3]
      exact t
    have hMb := bm_big (by omega : 0 ≤ M) n
    have hC := zkr_CS hM (by omega) (by omega) ho c3 (Cl_diag c1) (Or.inr ⟨a, Gr_self c1, c5⟩ : CS n (cT q.2) q)
    rw [e] at hC
    obtain ⟨g1, g2⟩ := lowL_ok hM h5 c3 (Cl_diag c1)
    have hr : rT (rwh f l m r.2) = lowL m (fun k => f 225 (6 * l + k)) (fun k => f 226 (6 * l + k)) (fun k => f 227 (6 * l + k)) (rT r.2) := rT_rwh h5
    obtain ⟨k1, k2⟩ := rwh_ok h5 c6
    have hbr : Bb n M (rT (rwh f l m r.2)) := by
      rw [hr]
      exact (lowL_ok hM h5 (Bb_e c4 c3) (fun x hx => by rw [← c4 x x hx hx]; exact Cl_diag c1 x hx)).1
    have hR := rcl_RS (by omega : 0 ≤ M) hb hbr k1 (fun i hi => by have := k2 i i; have := diag_rT c1 c4 i hi; omega)
    rw [hr] at hR
    have hx : TS n (bm M n) (zkr f p n l m q) (rcl n (0, rwh f l m r.2)) := TS_of (by omega) (Sm_lowL h5 (Sm_e c4)) g1 g2 (Zr_le (fun j _ => lowL_le _ _ _ _ _ 0 j) c2) hC hR
    unfold zkl rwc
    rw [h2, h3, Int.toNat_natCast, b]
    exact hx
/-- 2: time up -/
theorem TS_up {n : Nat} {M : Int} {q r : Int × Mt} (h : TS n M q r) : TS n M (q.1, zup n q.2) (r.1, rup n r.2) := by
  rcases h with ⟨a, b⟩ | ⟨a, b, c1, c2, c3, c4, c5, c6⟩
  · exact Or.inl ⟨a, b⟩
  · have e1 : Eqn n (upT (cT q.2)) (cT (zup n q.2)) := by
      intro i j hi hj
      show (if j = 0 ∧ i ≠ 0 then none else cv (q.2 i j)) = cv (if j = 0 ∧ 1 ≤ i ∧ i < n then 268435456 else q.2 i j)
      by_cases z : j = 0 ∧ i ≠ 0
      · rw [if_pos z, if_pos (by omega), cv_n (by decide)]
      · rw [if_neg z, if_neg (by omega)]
    have e2 : Eqn n (upT (rT r.2)) (rT (rup n r.2)) := by
      intro i j hi hj
      show (if j = 0 ∧ i ≠ 0 then none else rv (r.2 i j)) = rv (if j = 0 ∧ 1 ≤ i ∧ i < n then 1000000 else r.2 i j)
      by_cases z : j = 0 ∧ i ≠ 0
      · rw [if_pos z, if_pos (by omega), rv_n (by decide)]
      · rw [if_neg z, if_neg (by omega)]
    refine Or.inr ⟨a, b, Cl_e e1 (upT_cl c1), fun j hj => ?_, Bb_e e1 (upT_bb c3), ?_, fun i j hi hj => ?_, fun i j hi hj => ?_⟩
    · rw [← e1 0 j (by omega) hj]; exact upT_zr c2 j hj
    · refine Eqn_t (Eqn_s e1) (Eqn_t (fun i j hi hj => ?_) e2)
      unfold upT
      rw [c4 i j hi hj]
    · show -100000000 < (if j = 0 ∧ 1 ≤ i ∧ i < n then 268435456 else q.2 i j) ∧ _ ∧ _
      have := c5 i j hi hj
      show -100000000 < (if j = 0 ∧ 1 ≤ i ∧ i < n then 268435456 else q.2 i j) ∧ (if j = 0 ∧ 1 ≤ i ∧ i < n then 268435456 else q.2 i j) ≤ 268435456 ∧ ((if j = 0 ∧ 1 ≤ i ∧ i < n then 268435456 else q.2 i j) < 100000000 ∨ (if j = 0 ∧ 1 ≤ i ∧ i < n then 268435456 else q.2 i j) = 268435456)
      split
      · exact ⟨by decide, by decide, Or.inr rfl⟩
      · exact this
    · have := c6 i j hi hj
      show -1000000 < (if j = 0 ∧ 1 ≤ i ∧ i < n then 1000000 else r.2 i j) ∧ (if j = 0 ∧ 1 ≤ i ∧ i < n then 1000000 else r.2 i j) ≤ 1000000
      split <;> omega
/-- a table out of a closed one in both -/
theorem TS_mk {n : Nat} {M : Int} (hM : M ≤ 1000000) {T : Bt} (h1 : Cl n T) (h2 : Zr n T) (h3 : Bb n M T) {C A : Mt} (e1 : Eqn n T (cT C)) (e2 : Eqn n T (rT A)) (h4 : ∀ i j, i < n → j < n → C i j ≤ 268435456) (h5 : ∀ i j, i < n → j < n → A i j ≤ 1000000) : TS n M (0, C) (0, A) := by
  refine Or.inr ⟨rfl, rfl, Cl_e e1 h1, fun j hj => ?_, Bb_e e1 h3, Eqn_t (Eqn_s e1) e2, fun i j hi hj => ?_, fun i j hi hj => ?_⟩
  · rw [← e1 0 j (by omega) hj]; exact h2 j hj
  · have := h4 i j hi hj
    show -100000000 < C i j ∧ C i j ≤ 268435456 ∧ (C i j < 100000000 ∨ C i j = 268435456)
    by_cases hf : C i j < 268435456
    · have := h3 i j (C i j) hi hj ((e1 i j hi hj).trans (cv_s hf))
      exact ⟨by omega, by omega, Or.inl (by omega)⟩
    · exact ⟨by omega, by omega, Or.inr (by omega)⟩
  · have := h5 i j hi hj
    show -1000000 < A i j ∧ A i j ≤ 1000000
    by_cases hf : A i j < 1000000
    · have := h3 i j (A i j) hi hj ((e2 i j hi hj).trans (rv_s hf))
      exact ⟨by omega, by omega⟩
    · exact ⟨by omega, by omega⟩
theorem cp_le {a b : Int} (ha : sml 100000000 (cv a)) (hb : sml 100000000 (cv b)) : cp a b ≤ 268435456 := by
  rcases cp_cases ha hb with ⟨_, z⟩ | ⟨_, _, _, z, z1, z2⟩ <;> rw [z] <;> omega
/-- the reference's sum, where it is small -/
theorem rp_bad {a b : Int} (ha : sml 400000 (rv a)) (hb : sml 400000 (rv b)) : rv (rp a b) = bad (rv a) (rv b) ∧ rp a b ≤ 1000000 := by
  rcases rp_cases (sml_le (by decide) ha) (sml_le (by decide) hb) with ⟨z1, z⟩ | ⟨y1, y2, z1, z⟩
  · rw [z, z1]; exact ⟨rv_n (by decide), by decide⟩
  · have := ha a (rv_s y1)
    have := hb b (rv_s y2)
    have := pz_lo a b
    rw [z, z1]
    exact ⟨rv_s (by omega), by omega⟩
/-- 3: a clock set -/
theorem TS_set {n c : Nat} (h0 : 0 < c) (hc : c < n) {k : Int} (hk : 0 ≤ k ∧ k ≤ 50) {M : Int} (hM0 : 0 ≤ M) (hM : M ≤ 390000) {q r : Int × Mt} (h : TS n M q r) : TS n (M + 102) (q.1, zas n c (am k) (am (mj_w (-k))) q.2) (r.1, rst n c (am k) (am (mj_w (-k))) r.2) := by
  rcases h with ⟨a, b⟩ | ⟨a, b, c1, c2, c3, c4, c5, c6⟩
  · exact Or.inl ⟨a, b⟩
  · rw [a, b, w_id (by omega), am_id (by omega), am_id (by omega)]
    have hn : 0 < n := by omega
    have s1 : sml 1000 (some (2 * k + 1)) := fun x hx => by have := Option.some.inj hx; omega
    have s2 : sml 1000 (some (2 * -k + 1)) := fun x hx => by have := Option.some.inj hx; omega
    have k1 : cv (2 * k + 1) = some (2 * k + 1) := cv_s (by omega)
    have k2 : cv (2 * -k + 1) = some (2 * -k + 1) := cv_s (by omega)
    have k3 : rv (2 * k + 1) = some (2 * k + 1) := rv_s (by omega)
    have k4 : rv (2 * -k + 1) = some (2 * -k + 1) := rv_s (by omega)
    have c3' : Bb n M (rT r.2) := Bb_e c4 c3
    refine TS_mk (T := setT c (2 * k + 1) (2 * -k + 1) (cT q.2)) (by omega) (setT_cl h0 hc (by unfold pz; omega) c1) (setT_zr h0 hc (by omega) c1 c2) (setT_bb hn (by omega) (by omega) c3) (fun i j hi hj => ?_) (fun i j hi hj => ?_) (fun i j hi hj => ?_) (fun i j hi hj => ?_)
    · unfold setT cT zas
      by_cases z1 : i = c ∧ j ≠ c
      · rw [if_pos z1, if_pos (by omega), cp_bad (by rw [k1]; exact sml_le (by decide) s1) (sml_le (by omega) (Bb_sml c3 hn hj)), k1]
      · rw [if_neg z1, if_neg (by omega : ¬ (i = c ∧ j < n ∧ j ≠ c))]
        by_cases z2 : j = c ∧ i ≠ c
        · rw [if_pos z2, if_pos (by omega : j = c ∧ i < n ∧ i ≠ c), cp_bad (sml_le (by omega) (Bb_sml c3 hi hn)) (by rw [k2]; exact sml_le (by decide) s2), k2]
        · rw [if_neg z2, if_neg (by omega : ¬ (j = c ∧ i < n ∧ i ≠ c))]
    · unfold setT rT rst
      by_cases z1 : i = c ∧ j ≠ c
      · rw [if_pos z1, if_pos (by omega), (rp_bad (by rw [k3]; exact sml_le (by decide) s1) (sml_le (by omega) (Bb_sml c3' hn hj))).1, k3, c4 0 j hn hj]
        rfl
      · rw [if_neg z1, if_neg (by omega : ¬ (i = c ∧ j < n ∧ j ≠ c))]
        by_cases z2 : j = c ∧ i ≠ c
        · rw [if_pos z2, if_pos (by omega : j = c ∧ i < n ∧ i ≠ c), (rp_bad (sml_le (by omega) (Bb_sml c3' hi hn)) (by rw [k4]; exact sml_le (by decide) s2)).1, k4, c4 i 0 hi hn]
          rfl
        · rw [if_neg z2, if_neg (by omega : ¬ (j = c ∧ i < n ∧ i ≠ c))]
          exact c4 i j hi hj
    · unfold zas
      split
      · exact cp_le (by rw [k1]; exact sml_le (by decide) s1) (sml_le (by omega) (Bb_sml c3 hn hj))
      · split
        · exact cp_le (sml_le (by omega) (Bb_sml c3 hi hn)) (by rw [k2]; exact sml_le (by decide) s2)
        · exact (c5 i j hi hj).2.1
    · unfold rst
      split
      · exact (rp_bad (by rw [k3]; exact sml_le (by decide) s1) (sml_le (by omega) (Bb_sml c3' hn hj))).2
      · split
        · exact (rp_bad (sml_le (by omega) (Bb_sml c3' hi hn)) (by rw [k4]; exact sml_le (by decide) s2)).2
        · exact (c6 i j hi hj).2
/-- 4: a clock freed -/
theorem TS_fre {n c : Nat} (h0 : 0 < c) (hc : c < n) {M : Int} (hM : M ≤ 1000000) {q r : Int × Mt} (h : TS n M q r) : TS n M (q.1, zfr n c q.2) (r.1, um (rfr n c r.2) 0 c 1) := by
  rcases h with ⟨a, b⟩ | ⟨a, b, c1, c2, c3, c4, c5, c6⟩
  · exact Or.inl ⟨a, b⟩
  · rw [a, b]
    have hn : 0 < n := by omega
    refine TS_mk (T := freT c (cT q.2)) hM (freT_cl h0 hc c1) (freT_zr h0 hn c1 c2) (freT_bb hn c3) (fun i j hi hj => ?_) (fun i j hi hj => ?_) (fun i j hi hj => ?_) (fun i j hi hj => ?_)
    · unfold freT cT zfr
      by_cases z1 : i = c ∧ j ≠ c
      · rw [if_pos z1, if_pos (by omega), cv_n (by decide)]
      · rw [if_neg z1, if_neg (by omega : ¬ (i = c ∧ j < n ∧ j ≠ c))]
        by_cases z2 : j = c ∧ i ≠ c
        · rw [if_pos z2, if_pos (by omega : j = c ∧ i < n ∧ i ≠ c)]
        · rw [if_neg z2, if_neg (by omega : ¬ (j = c ∧ i < n ∧ i ≠ c))]
    · unfold freT rT um rfr
      by_cases z0 : i = 0 ∧ j = c
      · rw [if_pos z0, if_neg (by omega : ¬ (i = c ∧ j ≠ c)), if_pos (by omega : j = c ∧ i ≠ c), z0.1]
        exact (c1.1 0 hn).trans (rv_s (by decide)).symm
      · rw [if_neg z0]
        by_cases z1 : i = c ∧ j ≠ c
        · rw [if_pos z1, if_pos (by omega), rv_n (by decide)]
        · rw [if_neg z1, if_neg (by omega : ¬ (i = c ∧ j < n ∧ j ≠ c))]
          by_cases z2 : j = c ∧ i ≠ c
          · rw [if_pos z2, if_pos (by omega : j = c ∧ i < n ∧ i ≠ c)]
            exact c4 i 0 hi hn
          · rw [if_neg z2, if_neg (by omega : ¬ (j = c ∧ i < n ∧ i ≠ c))]
            exact c4 i j hi hj
    · unfold zfr
      split
      · exact Int.le_refl _
      · split
        · exact (c5 i 0 hi hn).2.1
        · exact (c5 i j hi hj).2.1
    · unfold um rfr
      split
      · decide
      · split
        · exact Int.le_refl _
        · split
          · exact (c6 i 0 hi hn).2
          · exact (c6 i j hi hj).2
