/-! The same table: waiting, sets, steps, steps back, a clock more, what is too far. -/
theorem TS_list {n m : Nat} {cl re nu : Nat → Int} (ho : okL n m cl re nu) {M : Int} (hM : 102 ≤ M) (hb : bm M n ≤ 1000000) {q r : Int × Mt} (h : TS n M q r) {q' : Int × Mt} {A' : Mt} (v1 : q.1 = 1 → q'.1 = 1) (hC : Bb n M (cT q.2) → (∀ x, x < n → ble (cT q.2 x x) (some 1)) → CS n (cT q.2) q → CS n (lowL m cl re nu (cT q.2)) q') (hR : rT A' = lowL m cl re nu (rT r.2)) (hN : NI n r.2 → NI n A') (hL : ∀ x y, A' x y ≤ r.2 x y) : TS n (bm M n) q' (rcl n (r.1, A')) := by
  rcases h with ⟨a, b⟩ | ⟨a, b, c1, c2, c3, c4, c5, c6⟩
  · exact Or.inl ⟨v1 a, rcl_v b⟩
  · have h1 := hC c3 (Cl_diag c1) (Or.inr ⟨a, Gr_self c1, c5⟩)
    obtain ⟨g1, g2⟩ := lowL_ok hM ho c3 (Cl_diag c1)
    have hbr : Bb n M (rT A') := by
      rw [hR]
      exact (lowL_ok hM ho (Bb_e c4 c3) (fun x hx => by rw [← c4 x x hx hx]; exact Cl_diag c1 x hx)).1
    have h2 := rcl_RS (by omega : 0 ≤ M) hb hbr (hN c6) (fun i hi => by have := hL i i; have := diag_rT c1 c4 i hi; omega)
    rw [hR] at h2
    rw [b]
    exact TS_of (by omega) (Sm_lowL ho (Sm_e c4)) g1 g2 (Zr_le (fun j _ => lowL_le _ _ _ _ _ 0 j) c2) h1 h2
theorem TS_wait {f : mj_F} {p n l : Nat} (hs : sL f p n l) {M : Int} (hM : 102 ≤ M) (hb : bm (bm M n) n ≤ 1000000) {q r : Int × Mt} (h : TS n M q r) : TS n (bm (bm M n) n) (zwt f p n l q) (rwt f n l r) := by
  have h1 := bm_big (by omega : 0 ≤ M) n
  have h2 := bm_big (by omega : 0 ≤ bm M n) n
  exact TS_keep hs (by omega) hb (TS_up (TS_keep hs hM (by omega) h))
/-- sets of edge e are the same in both, and in order -/
def sS (f : mj_F) (p n e : Nat) : Prop := ∃ m : Nat, m ≤ 4 ∧ f (p + 10) e = (m : Int) ∧ f 230 e = (m : Int) ∧ (∀ k, k < m → f (p + 11) (4 * e + k) = f 231 (4 * e + k) ∧ f (p + 12) (4 * e + k) = f 232 (4 * e + k)) ∧ ∀ k, k < m → 0 ≤ f 231 (4 * e + k) ∧ (f 231 (4 * e + k)).toNat + 1 < n ∧ 0 ≤ f 232 (4 * e + k) ∧ f 232 (4 * e + k) ≤ 50
theorem sS_ok {f : mj_F} {p n e : Nat} (hn : n ≤ 5) (s : sS f p n e) : oks f p e ∧ mks f e := by
  obtain ⟨a, h1, h2, h3, h4, h5⟩ := s
  refine ⟨⟨a, h2, h1, fun k hk => ?_⟩, ⟨a, h3, h1, fun k hk => ?_⟩⟩
  · have := h5 k hk
    rw [(h4 k hk).1]
    omega
  · have := h5 k hk
    omega
theorem TS_setm {f : mj_F} {p n e m : Nat} (h4 : ∀ k, k < m → f (p + 11) (4 * e + k) = f 231 (4 * e + k) ∧ f (p + 12) (4 * e + k) = f 232 (4 * e + k)) (h5 : ∀ k, k < m → 0 ≤ f 231 (4 * e + k) ∧ (f 231 (4 * e + k)).toNat + 1 < n ∧ 0 ≤ f 232 (4 * e + k) ∧ f 232 (4 * e + k) ≤ 50) {M : Int} (hM0 : 0 ≤ M) (hM : M + 102 * (m : Int) ≤ 390000) {q r : Int × Mt} (h : TS n M q r) : TS n (M + 102 * (m : Int)) (q.1, zap f p n e m q.2) (r.1, rap f n e m r.2) := by
  induction m with
  | zero => exact TS_le (by omega) h
  | succ m ih =>
    have h1 := ih (fun k hk => h4 k (by omega)) (fun k hk => h5 k (by omega)) (by omega)
    obtain ⟨e1, e2⟩ := h4 m (by omega)
    have t := h5 m (by omega)
    have h2 := TS_set (c := (f 231 (4 * e + m)).toNat + 1) (k := f 232 (4 * e + m)) (by omega) t.2.1 t.2.2 (by omega) (by omega) h1
    have ez : zap f p n e (m + 1) q.2 = zas n ((f (p + 11) (4 * e + m)).toNat + 1) (am (f (p + 12) (4 * e + m))) (am (mj_w (-(f (p + 12) (4 * e + m))))) (zap f p n e m q.2) := rfl
    have er : rap f n e (m + 1) r.2 = rst n ((f 231 (4 * e + m)).toNat + 1) (am (f 232 (4 * e + m))) (am (mj_w (-(f 232 (4 * e + m))))) (rap f n e m r.2) := rfl
    rw [ez, er, e1, e2]
    exact TS_le (by omega) h2
theorem TS_sets {f : mj_F} {p n e : Nat} (hs : sS f p n e) {M : Int} (hM0 : 0 ≤ M) (hM : M + 408 ≤ 390000) {q r : Int × Mt} (h : TS n M q r) : TS n (M + 408) (q.1, zae f p n e q.2) (r.1, rap f n e (f 230 e).toNat r.2) := by
  obtain ⟨m, h1, h2, h3, h4, h5⟩ := hs
  unfold zae
  rw [h2, h3, Int.toNat_natCast]
  exact TS_le (by omega) (TS_setm h4 h5 hM0 (by omega) h)
theorem bm5 {M : Int} (hM : 0 ≤ M) {n : Nat} (hn : n ≤ 5) : bm M n ≤ 6 * M := by
  have := bm_le hM hn
  have e : bm M 5 = 6 * M := by unfold bm; rfl
  omega
theorem bm6 {M : Int} (hM : 0 ≤ M) {n : Nat} (hn : n ≤ 6) : bm M n ≤ 7 * M := by
  have := bm_le hM hn
  have e : bm M 6 = 7 * M := by unfold bm; rfl
  omega
theorem TS_step {f : mj_F} {p n e l : Nat} (hn : n ≤ 5) (hs : sL f p n l) (hse : sL f p n (8 + e)) (hss : sS f p n e) {q r : Int × Mt} (h : TS n 802 q r) : TS n 200000 (zst f p n e l q) (rsp f n e l r) := by
  have b1 := bm5 (M := 802) (by decide) hn
  have h1 := TS_le (N := 4812) (by omega) (TS_keep hse (by decide) (by omega) h)
  have h2 := TS_le (N := 5220) (by decide) (TS_sets hss (by decide) (by decide) h1)
  have b2 := bm5 (M := 5220) (by decide) hn
  have b2' := bm_big (M := 5220) (by decide) n
  have b3 := bm5 (M := bm 5220 n) (by omega) hn
  exact TS_le (by omega) (TS_wait hs (by decide) (by omega) h2)
/-! back -/
theorem zb1_v {f : mj_F} {p n e m : Nat} {q : Int × Mt} (h : q.1 = 1) : (zb1 f p n e m q).1 = 1 := by
  induction m with
  | zero => exact h
  | succ m ih => exact zt_v (zt_v ih)
theorem zb1_CS {n e m p : Nat} {f : mj_F} {M : Int} (hM : 102 ≤ M) (hb : bm M n ≤ 30000000) (hM' : M ≤ 30000000) {A : Bt} (ho : okL n m (fun k => f (p + 11) (4 * e + k)) (fun _ => 2) (fun k => f (p + 12) (4 * e + k))) (hA : Bb n M A) (hd : ∀ x, x < n → ble (A x x) (some 1)) {q : Int × Mt} (h : CS n A q) : CS n (lowL m (fun k => f (p + 11) (4 * e + k)) (fun _ => 2) (fun k => f (p + 12) (4 * e + k)) A) (zb1 f p n e m q) := by
  induction m with
  | zero => exact h
  | succ m ih =>
    have h1 := ih (fun k hk => ho k (by omega))
    obtain ⟨h2, h3⟩ := lowL_ok (m := m) hM (fun k hk => ho k (by omega)) hA hd
    have t : 0 ≤ f (p + 11) (4 * e + m) ∧ (f (p + 11) (4 * e + m)).toNat + 1 < n ∧ (0 : Int) ≤ 2 ∧ (2 : Int) ≤ 4 ∧ 0 ≤ f (p + 12) (4 * e + m) ∧ f (p + 12) (4 * e + m) ≤ 50 := ho m (by omega)
    exact zt2_CS (i := (f (p + 11) (4 * e + m)).toNat + 1) (j := 0) (rel := 2) (x := f (p + 12) (4 * e + m)) t.2.1 (by omega) hb hM' h2 h3 (by omega) (by omega) h1
theorem rbm_ok {f : mj_F} {n e m : Nat} {A : Mt} (ho : okL n m (fun k => f 231 (4 * e + k)) (fun _ => 2) (fun k => f 232 (4 * e + k))) : rT (rbm f e m A) = lowL m (fun k => f 231 (4 * e + k)) (fun _ => 2) (fun k => f 232 (4 * e + k)) (rT A) ∧ (NI n A → NI n (rbm f e m A)) ∧ ∀ x y, rbm f e m A x y ≤ A x y := by
  induction m with
  | zero => exact ⟨rfl, fun h => h, fun _ _ => Int.le_refl _⟩
  | succ m ih =>
    obtain ⟨h1, h2, h3⟩ := ih (fun k hk => ho k (by omega))
    have t : 0 ≤ f 231 (4 * e + m) ∧ (f 231 (4 * e + m)).toNat + 1 < n ∧ (0 : Int) ≤ 2 ∧ (2 : Int) ≤ 4 ∧ 0 ≤ f 232 (4 * e + m) ∧ f 232 (4 * e + m) ≤ 50 := ho m (by omega)
    have es : rbm f e (m + 1) A = rmt ((f 231 (4 * e + m)).toNat + 1) 0 2 (f 232 (4 * e + m)) (rbm f e m A) := rfl
    rw [es]
    refine ⟨?_, fun h => rmt_ni (by omega) (h2 h), fun x y => Int.le_trans (rmt_le x y) (h3 x y)⟩
    show rT (rmt _ 0 _ _ (rbm f e m A)) = lowR _ 0 _ _ (lowL m _ _ _ (rT A))
    rw [rT_rmt (by omega) (by omega), h1]
theorem TS_eqs {f : mj_F} {p n e : Nat} (hs : sS f p n e) {M : Int} (hM : 102 ≤ M) (hb : bm M n ≤ 1000000) {q r : Int × Mt} (h : TS n M q r) : TS n (bm M n) (zb1 f p n e (f (p + 10) e).toNat q) (rcl n (r.1, rbm f e (f 230 e).toNat r.2)) := by
  obtain ⟨m, h1, h2, h3, h4, h5⟩ := hs
  rw [h2, h3, Int.toNat_natCast]
  have ho : okL n m (fun k => f 231 (4 * e + k)) (fun _ => 2) (fun k => f 232 (4 * e + k)) := fun k hk => by
    have := h5 k hk
    exact ⟨this.1, this.2.1, (show (0 : Int) ≤ 2 by decide), (show (2 : Int) ≤ 4 by decide), this.2.2⟩
  have ho' : okL n m (fun k => f (p + 11) (4 * e + k)) (fun _ => 2) (fun k => f (p + 12) (4 * e + k)) := fun k hk => by
    have t := h5 k hk
    obtain ⟨e1, e2⟩ := h4 k hk
    show 0 ≤ f (p + 11) (4 * e + k) ∧ (f (p + 11) (4 * e + k)).toNat + 1 < n ∧ (0 : Int) ≤ 2 ∧ (2 : Int) ≤ 4 ∧ 0 ≤ f (p + 12) (4 * e + k) ∧ f (p + 12) (4 * e + k) ≤ 50
    rw [e1, e2]
    exact ⟨t.1, t.2.1, by decide, by decide, t.2.2⟩
  have hMb := bm_big (by omega : 0 ≤ M) n
  obtain ⟨k1, k2, k3⟩ := rbm_ok (A := r.2) ho
  refine TS_list ho hM hb h zb1_v (fun a1 a2 a3 => ?_) k1 k2 k3
  have := zb1_CS hM (by omega) (by omega) ho' a1 a2 a3
  rw [lowL_congr (cl' := fun k => f 231 (4 * e + k)) (re' := fun _ => 2) (nu' := fun k => f 232 (4 * e + k)) (fun k hk => ⟨(h4 k hk).1, rfl, (h4 k hk).2⟩)] at this
  exact this
theorem TS_fres {f : mj_F} {p n e m : Nat} (h4 : ∀ k, k < m → f (p + 11) (4 * e + k) = f 231 (4 * e + k)) (h5 : ∀ k, k < m → 0 ≤ f 231 (4 * e + k) ∧ (f 231 (4 * e + k)).toNat + 1 < n) {M : Int} (hM : M ≤ 1000000) {q r : Int × Mt} (h : TS n M q r) : TS n M (q.1, zbf f p n e m q.2) (r.1, rbf f n e m r.2) := by
  induction m with
  | zero => exact h
  | succ m ih =>
    have h1 := ih (fun k hk => h4 k (by omega)) (fun k hk => h5 k (by omega))
    have h2 := TS_fre (c := (f 231 (4 * e + m)).toNat + 1) (by omega) (h5 m (by omega)).2 hM h1
    have ez : zbf f p n e (m + 1) q.2 = zfr n ((f (p + 11) (4 * e + m)).toNat + 1) (zbf f p n e m q.2) := rfl
    rw [ez, h4 m (by omega)]
    exact h2
theorem TS_back {f : mj_F} {p n e l : Nat} (hn : n ≤ 5) (hs : sL f p n l) (hse : sL f p n (8 + e)) (hss : sS f p n e) {q r : Int × Mt} (h : TS n 802 q r) : TS n 200000 (zbk f p n e l q) (rbk f n e l r) := by
  have b1 := bm5 (M := 802) (by decide) hn
  have h1 := TS_le (N := 4812) (by omega) (TS_keep hs (by decide) (by omega) h)
  have b2 := bm5 (M := 4812) (by decide) hn
  have h2 := TS_le (N := 28872) (by omega) (TS_eqs hss (by decide) (by omega) h1)
  have b3 := bm5 (M := 28872) (by decide) hn
  have hss' := hss
  obtain ⟨m, g1, g2, g3, g4, g5⟩ := hss'
  have h3 := TS_fres (m := m) (fun k hk => (g4 k hk).1) (fun k hk => ⟨(g5 k hk).1, (g5 k hk).2.1⟩) (by decide) h2
  have h4 := TS_le (N := 200000) (by omega) (TS_keep hse (by decide) (by omega) h3)
  unfold zbk rbk rb1
  rw [g2, g3, Int.toNat_natCast] at h4 ⊢
  exact h4
/-! a clock more -/
def rlD (n m : Nat) (cl re nu : Nat → Int) (D : Bt) : Prop := ∀ k, k < m → ble (D ((cl k).toNat + 1) 0) (ru (re k) (nu k)) ∧ ble (D 0 ((cl k).toNat + 1)) (rl (re k) (nu k))
theorem Bl_lowL {n m : Nat} {cl re nu : Nat → Int} (ho : okL n m cl re nu) {A D : Bt} : Bl n D (lowL m cl re nu A) ↔ Bl n D A ∧ rlD n m cl re nu D := by
  induction m with
  | zero => exact ⟨fun h => ⟨h, fun k hk => absurd hk (by omega)⟩, fun h => h.1⟩
  | succ m ih =>
    have t := ho m (by omega)
    have i1 := ih (fun k hk => ho k (by omega))
    have e : Bl n D (lowL (m + 1) cl re nu A) ↔ (Bl n D (lowL m cl re nu A) ∧ ble (D ((cl m).toNat + 1) 0) (ru (re m) (nu m))) ∧ ble (D 0 ((cl m).toNat + 1)) (rl (re m) (nu m)) := by
      show Bl n D (lowB 0 _ _ (lowB _ 0 _ (lowL m cl re nu A))) ↔ _
      rw [Bl_low (by omega) t.2.1, Bl_low t.2.1 (by omega)]
    rw [e, i1]
    constructor
    · intro ⟨⟨⟨a1, a2⟩, a3⟩, a4⟩
      refine ⟨a1, fun k hk => ?_⟩
      by_cases z : k = m
      · rw [z]; exact ⟨a3, a4⟩
      · exact a2 k (by omega)
    · intro ⟨a1, a2⟩
      exact ⟨⟨⟨a1, fun k hk => a2 k (by omega)⟩, (a2 m (by omega)).1⟩, (a2 m (by omega)).2⟩
theorem Sm_st {n m : Nat} (hn : 0 < n) {cl re nu : Nat → Int} (ho : okL n m cl re nu) {T : Bt} (hT : Cl n T) : Sm (n + 1) (lowL m cl re nu (stT n T)) (saT n (lowL m cl re nu T)) := by
  have ho' : okL (n + 1) m cl re nu := fun k hk => by have := ho k hk; exact ⟨this.1, by omega, this.2.2⟩
  intro D hd
  rw [Bl_lowL ho', Sm_gr (stT_gr hn (Gr_self hT)) D hd, saT_iff hn hd, saT_iff hn hd, Bl_lowL ho]
  constructor
  · intro ⟨⟨a1, a2, a3⟩, a4⟩; exact ⟨⟨a1, a4⟩, a2, a3⟩
  · intro ⟨⟨a1, a4⟩, a2, a3⟩; exact ⟨⟨a1, a2, a3⟩, a4⟩
theorem ztm_st {n : Nat} (hn : 0 < n) {C : Mt} (hc : Cl n (cT C)) (h5 : NC n C) : Eqn (n + 1) (stT n (cT C)) (cT (ztm n C)) ∧ ∀ i j, i < n + 1 → j < n + 1 → ztm n C i j ≤ 268435456 := by
  have e0 : am 0 = 1 := by decide
  have e1 : am (mj_w (-0)) = 1 := by decide
  have s1 : sml 100000000 (cv 1) := fun x hx => by have := cv_i hx; omega
  have hv : ∀ i j, ztm n C i j = if i = n ∧ j < n + 1 ∧ j ≠ n then cp 1 (um C n n 1 0 j) else if j = n ∧ i < n + 1 ∧ i ≠ n then cp (um C n n 1 i 0) 1 else um C n n 1 i j := fun i j => by
    unfold ztm zas
    rw [e0, e1]
  have u1 : ∀ i j, (i ≠ n ∨ j ≠ n) → um C n n 1 i j = C i j := fun i j h => by
    unfold um
    rw [if_neg]
    intro z
    rcases h with h | h
    · exact h z.1
    · exact h z.2
  constructor
  · intro i j hi hj
    show stT n (cT C) i j = cv (ztm n C i j)
    rw [hv i j]
    unfold stT
    by_cases hin : i = n
    · by_cases hjn : j = n
      · rw [if_pos hin, if_pos hjn, if_neg (by omega), if_neg (by omega), hin, hjn]
        unfold um
        rw [if_pos ⟨rfl, rfl⟩]
        rfl
      · rw [if_pos hin, if_neg hjn, if_pos (by omega), u1 0 j (Or.inr hjn), cp_bad s1 (NC_sml h5 hn (by omega))]
        show cv (C 0 j) = bad (some 1) (cv (C 0 j))
        rw [bad_1]
    · by_cases hjn : j = n
      · rw [if_neg hin, if_pos hjn, if_neg (by omega), if_pos (by omega), u1 i 0 (Or.inl hin), cp_bad (NC_sml h5 (by omega) hn) s1]
        show cv (C i 0) = bad (cv (C i 0)) (some 1)
        rw [bad_1r]
      · rw [if_neg hin, if_neg hjn, if_neg (by omega), if_neg (by omega), u1 i j (Or.inl hin)]
        rfl
  · intro i j hi hj
    rw [hv i j]
    split
    · rw [u1 0 j (Or.inr (by omega))]
      exact cp_le s1 (NC_sml h5 hn (by omega))
    · split
      · rw [u1 i 0 (Or.inl (by omega))]
        exact cp_le (NC_sml h5 (by omega) hn) s1
      · unfold um
        split
        · decide
        · exact (h5 i j (by omega) (by omega)).2.1
theorem stF_st {n : Nat} (hn : 0 < n) {A : Mt} (ha : NI n A) : Eqn (n + 1) (stT n (rT A)) (rT (um (stF n n A) n n 1)) ∧ NI (n + 1) (um (stF n n A) n n 1) := by
  have hv : ∀ i j, um (stF n n A) n n 1 i j = if i = n ∧ j = n then 1 else if i = n ∧ j < n then A 0 j else if j = n ∧ i < n then A i 0 else A i j := fun i j => rfl
  constructor
  · intro i j hi hj
    show stT n (rT A) i j = rv (um (stF n n A) n n 1 i j)
    rw [hv i j]
    unfold stT
    by_cases hin : i = n
    · by_cases hjn : j = n
      · rw [if_pos hin, if_pos hjn, if_pos ⟨hin, hjn⟩]; rfl
      · rw [if_pos hin, if_neg hjn, if_neg (by omega), if_pos (by omega)]; rfl
    · by_cases hjn : j = n
      · rw [if_neg hin, if_pos hjn, if_neg (by omega), if_neg (by omega), if_pos (by omega)]; rfl
      · rw [if_neg hin, if_neg hjn, if_neg (by omega), if_neg (by omega), if_neg (by omega)]; rfl
  · intro i j hi hj
    rw [hv i j]
    split
    · decide
    · split
      · exact ha 0 j hn (by omega)
      · split
        · exact ha i 0 (by omega) hn
        · exact ha i j (by omega) (by omega)
theorem stT_bb {n : Nat} (hn : 0 < n) {M : Int} (hM : 2 ≤ M) {C : Bt} (h : Bb n M C) : Bb (n + 1) M (stT n C) := by
  intro i j x hi hj hx
  unfold stT at hx
  split at hx
  · split at hx
    · have := Option.some.inj hx; omega
    · exact h 0 j x hn (by omega) hx
  · split at hx
    · exact h i 0 x (by omega) hn hx
    · exact h i j x (by omega) (by omega) hx
theorem stT_zr {n : Nat} (hn : 0 < n) {C : Bt} (hc : Cl n C) (h : Zr n C) : Zr (n + 1) (stT n C) := by
  intro j hj
  unfold stT
  rw [if_neg (by omega)]
  split
  · rw [hc.1 0 hn]; exact ble_r _
  · exact h j (by omega)
/-- the first whens of a table with a clock more -/
theorem TS_timed {f : mj_F} {p n l : Nat} (hn : 0 < n) (hs : sL f p n l) {M : Int} (hM : 102 ≤ M) (hb : bm M (n + 1) ≤ 1000000) {q r : Int × Mt} (h : TS n M q r) : TS (n + 1) (bm M (n + 1)) (zkl f p (n + 1) l (q.1, ztm n q.2)) ((rwc f n l r).1, um (stF n n (rwc f n l r).2) n n 1) := by
  have hb' : bm M n ≤ 1000000 := by have := bm_le (by omega : 0 ≤ M) (show n ≤ n + 1 by omega); omega
  have hMb := bm_big (by omega : 0 ≤ M) (n + 1)
  obtain ⟨m, h1, h2, h3, h4, h5⟩ := hs
  rcases h with ⟨a, b⟩ | ⟨a, b, c1, c2, c3, c4, c5, c6⟩
  · exact Or.inl ⟨zkr_v a, rcl_v b⟩
  · obtain ⟨t1, t2⟩ := ztm_st hn c1 c5
    have d1 : Cl (n + 1) (stT n (cT q.2)) := stT_cl hn c1
    have d3 : Bb (n + 1) M (stT n (cT q.2)) := stT_bb hn (by omega) c3
    have h5' : okL (n + 1) m (fun k => f 225 (6 * l + k)) (fun k => f 226 (6 * l + k)) (fun k => f 227 (6 * l + k)) := fun k hk => by have := h5 k hk; exact ⟨this.1, by omega, this.2.2⟩
    have ho : okL (n + 1) m (fun k => f (p + 5) (6 * l + k)) (fun k => f (p + 6) (6 * l + k)) (fun k => f (p + 7) (6 * l + k)) := by
      intro k hk
      have t := h5' k hk
      obtain ⟨e1, e2, e3⟩ := h4 k hk
      show 0 ≤ f (p + 5) (6 * l + k) ∧ (f (p + 5) (6 * l + k)).toNat + 1 < n + 1 ∧ 0 ≤ f (p + 6) (6 * l + k) ∧ f (p + 6) (6 * l + k) ≤ 4 ∧ 0 ≤ f (p + 7) (6 * l + k) ∧ f (p + 7) (6 * l + k) ≤ 50
      rw [e1, e2, e3]
      exact t
    have hN : NC (n + 1) (ztm n q.2) := Bb_NC (by omega) (Bb_e t1 d3) t2
    have hC0 : CS (n + 1) (stT n (cT q.2)) (q.1, ztm n q.2) := Or.inr ⟨a, Gr_e t1 (Gr_self d1), hN⟩
    have hC := zkr_CS hM (by omega) (by omega) ho d3 (Cl_diag d1) hC0
    rw [lowL_congr (cl' := fun k => f 225 (6 * l + k)) (re' := fun k => f 226 (6 * l + k)) (nu' := fun k => f 227 (6 * l + k)) h4] at hC
    obtain ⟨g1, g2⟩ := lowL_ok hM h5' d3 (Cl_diag d1)
    have hr : rT (rwh f l m r.2) = lowL m (fun k => f 225 (6 * l + k)) (fun k => f 226 (6 * l + k)) (fun k => f 227 (6 * l + k)) (rT r.2) := rT_rwh h5
    obtain ⟨k1, k2⟩ := rwh_ok h5 c6
    have hbr : Bb n M (rT (rwh f l m r.2)) := by
      rw [hr]
      exact (lowL_ok hM h5 (Bb_e c4 c3) (fun x hx => by rw [← c4 x x hx hx]; exact Cl_diag c1 x hx)).1
    have hR := rcl_RS (by omega : 0 ≤ M) hb' hbr k1 (fun i hi => by have := k2 i i; have := diag_rT c1 c4 i hi; omega)
    rw [hr] at hR
    have hsm := Sm_st hn h5 c1
    have hsm2 : Sm n (lowL m (fun k => f 225 (6 * l + k)) (fun k => f 226 (6 * l + k)) (fun k => f 227 (6 * l + k)) (rT r.2)) (lowL m (fun k => f 225 (6 * l + k)) (fun k => f 226 (6 * l + k)) (fun k => f 227 (6 * l + k)) (cT q.2)) := Sm_lowL h5 (Sm_s (Sm_e c4))
    have hR2 : RS (n + 1) (saT n (lowL m (fun k => f 225 (6 * l + k)) (fun k => f 226 (6 * l + k)) (fun k => f 227 (6 * l + k)) (cT q.2))) ((rcl n (0, rwh f l m r.2)).1, um (stF n n (rcl n (0, rwh f l m r.2)).2) n n 1) := by
      rcases hR with ⟨y1, y2⟩ | ⟨y1, y2, y3⟩
      · exact Or.inl ⟨y1, saT_vd hn (Vd_sm hsm2 y2)⟩
      · obtain ⟨w1, w2⟩ := stF_st hn y3
        exact Or.inr ⟨y1, Gr_e w1 (stT_gr hn (Gr_sm hsm2 y2)), w2⟩
    have hx := TS_of (by omega : 0 ≤ M) hsm g1 g2 (Zr_le (fun j _ => lowL_le _ _ _ _ _ 0 j) (stT_zr hn c1 c2)) hC hR2
    unfold zkl rwc
    rw [h2, h3, Int.toNat_natCast, b]
    exact hx
/-! what is too far -/
theorem any_congr {n : Nat} {g g' : Nat → Bool} (h : ∀ i, i < n → g i = g' i) : any n g = any n g' := by
  cases e : any n g with
  | true =>
    obtain ⟨i, hi, q⟩ := any_iff.1 e
    exact (any_iff.2 ⟨i, hi, (h i hi).symm.trans q⟩).symm
  | false =>
    cases e' : any n g' with
    | false => rfl
    | true =>
      obtain ⟨i, hi, q⟩ := any_iff.1 e'
      rw [any_iff.2 ⟨i, hi, (h i hi).trans q⟩] at e
      cases e
theorem TS_far {n : Nat} {M : Int} {C A : Mt} (h : TS n M (0, C) (0, A)) : byM n 400 C = farM n A := by
  rcases h with ⟨a, _⟩ | ⟨_, _, c1, c2, c3, c4, c5, c6⟩
  · exact absurd (show (0 : Int) = 1 from a) (by decide)
  refine any_congr (fun i hi => any_congr (fun j hj => ?_))
  have y1 : -100000000 < C i j ∧ C i j ≤ 268435456 ∧ _ := c5 i j hi hj
  have y2 : -1000000 < A i j ∧ A i j ≤ 1000000 := c6 i j hi hj
  have y3 : cv (C i j) = rv (A i j) := c4 i j hi hj
  unfold byB farB
  rw [shr_1 (by omega), shr_1 (by omega), w_id (by omega)]
  by_cases hf : C i j < 268435456
  · rw [cv_s hf] at y3
    have y4 := rv_i y3.symm
    rw [y4.1, decide_eq_true hf, decide_eq_true (by omega : C i j < 1000000), Bool.true_and, Bool.true_and]
    by_cases z : -400 ≤ C i j / 2 ∧ C i j / 2 ≤ 400
    · rw [decide_eq_true z, decide_eq_false (by split <;> omega)]; rfl
    · rw [decide_eq_false z, decide_eq_true (by split <;> omega)]; rfl
  · rw [cv_n (by omega)] at y3
    have y4 := rv_o y3.symm
    rw [decide_eq_false hf, decide_eq_false (by omega : ¬ A i j < 1000000)]; rfl
theorem TS_near {n : Nat} {M : Int} {C A : Mt} (h : TS n M (0, C) (0, A)) (hf : farM n A = false) : TS n 802 (0, C) (0, A) := by
  rcases h with ⟨a, _⟩ | ⟨_, _, c1, c2, c3, c4, c5, c6⟩
  · exact absurd (show (0 : Int) = 1 from a) (by decide)
  refine Or.inr ⟨rfl, rfl, c1, c2, fun i j x hi hj hx => ?_, c4, c5, c6⟩
  have y2 : -1000000 < A i j ∧ A i j ≤ 1000000 := c6 i j hi hj
  have y3 : rv (A i j) = some x := (c4 i j hi hj).symm.trans hx
  have y4 := rv_i y3
  have y5 : farB (A i j) = false := by
    cases e : farB (A i j) with
    | false => rfl
    | true =>
      have : farM n A = true := any_iff.2 ⟨i, hi, any_iff.2 ⟨j, hj, e⟩⟩
      rw [this] at hf
      cases hf
  unfold farB at y5
  rw [shr_1 (by omega), decide_eq_true (by omega : A i j < 1000000), Bool.true_and] at y5
  have y6 : -400 ≤ A i j / 2 ∧ A i j / 2 ≤ 400 := by
    by_cases z : -400 ≤ A i j / 2 ∧ A i j / 2 ≤ 400
    · exact z
    · rw [decide_eq_false z] at y5
      cases y5
  omega
