/-! Zones beside a plan: whens kept, sets done, waits, steps; whole squares at once. -/
theorem zp_lt {z p k : Nat} (hz : zn z = true) (hp : pn p) (hk : k ≤ 12) : p + k ≠ z ∧ p + k ≠ z + 1 := by
  have h1 := zn_lt hz
  unfold pn at hp
  omega
theorem zs_p {z p k q : Nat} {f : mj_F} {n v : Int} {C : Mt} (hz : zn z = true) (hp : pn p) (hk : k ≤ 12) : zs z f n v C (p + k) q = f (p + k) q := zs_o (zp_lt hz hp hk).1 (zp_lt hz hp hk).2
theorem zs_cq {z : Nat} {f : mj_F} {n v : Int} {C : Mt} {q : Nat} (hq : q < 36) : zs z f n v C (z + 1) q = C (q / 6) (q % 6) := by
  have h := zs_c (z := z) (f := f) (n := n) (v := v) (C := C) (i := q / 6) (j := q % 6) (by omega) (by omega)
  rw [show 6 * (q / 6) + q % 6 = q by omega] at h
  exact h
theorem zs_pq {z : Nat} {f : mj_F} {n v : Int} {C : Mt} {q : Nat} {b : Int} (hq : q < 36) : mj_u (zs z f n v C) (z + 1) q b = zs z f n v (um C (q / 6) (q % 6) b) := by
  have h := zs_put (z := z) (f := f) (n := n) (v := v) (C := C) (i := q / 6) (j := q % 6) (b := b) (by omega) (by omega)
  rw [show 6 * (q / 6) + q % 6 = q by omega] at h
  exact h
/-- the first k cells anew -/
def zm (k : Nat) (g : Mt) (C : Mt) : Mt := fun i j => if 6 * i + j < k ∧ j < 6 then g i j else C i j
theorem zm_0 (g C : Mt) : zm 0 g C = C := by
  funext i j
  unfold zm
  rw [if_neg (by omega)]
theorem zm_S (k : Nat) (g C : Mt) : um (zm k g C) (k / 6) (k % 6) (g (k / 6) (k % 6)) = zm (k + 1) g C := by
  funext i j
  unfold um zm
  by_cases h : i = k / 6 ∧ j = k % 6
  · rw [if_pos h, if_pos (by omega), h.1, h.2]
  · rw [if_neg h]
    exact ifc (by omega) rfl rfl
theorem zm_at {k : Nat} {g C : Mt} {q : Nat} (h : k ≤ q) : zm k g C (q / 6) (q % 6) = C (q / 6) (q % 6) := by
  unfold zm
  rw [if_neg (by omega)]
section ZZ
variable {sw : Bool} {w : mj_W}
/-- Arrays.fill -/
def fillM (f : mj_F) (a k : Nat) (x : Int) : mj_F := fun b q => if b = a ∧ q < k then x else f b q
theorem A_fill (hw : wk sw w) (f : mj_F) {a n : Nat} (ha : w.1 a = (100, n)) (hn : n < 1000000) (x : Int) : mj_call yA_fill w f [.inr (.inl a), .inl x] = some (w, fillM f a n x, none) := by
  rw [c_A_fill hw _ a n _ ha (by omega)]
  have h := loop_st (fun k => mj_run yA_fill w (fillM f a k x) 5 [.inr (.inl a), .inl x, .inl (k : Int), .inl (n : Int)] []) (Nat.zero_le n) (fun k _ hk => by
    rw [l_A_fill_5 hw _ a n _ _ _ ha (by omega), if_neg (by omega), mj_gd_pos ⟨by omega, by omega⟩, Int.toNat_natCast, wS (by omega)]
    congr 1
    funext b q
    unfold mj_u fillM
    by_cases hb : b = a ∧ q = k
    · rw [if_pos hb, if_pos (by omega)]
    · rw [if_neg hb]
      exact ifc (by omega) rfl rfl)
  have h0 : fillM f a 0 x = f := by
    funext b q
    unfold fillM
    rw [if_neg (by omega)]
  rw [h0] at h
  refine h.trans ?_
  rw [l_A_fill_5 hw _ a n _ _ _ ha (by omega), if_pos (by omega)]
theorem Z_layZero (hw : wk sw w) {z : Nat} (hz : zn z = true) (f : mj_F) (n : Int) : mj_call yZ_layZero w f [.inr (.inl z), .inl n] = some (w, zs z f n 0 (fun _ _ => 1), none) := by
  rw [c_Z_layZero hw _ z _ hz, A_fill hw _ (zn_c hz hw) (by omega), mj_bu_some]
  congr 2
/-- whens of a list kept: flag, square -/
def zkr (f : mj_F) (p n l m : Nat) (q : Int × Mt) : Int × Mt := itr m (fun k q =>
  zt n 0 ((f (p + 5) (6 * l + k)).toNat + 1) (loB (f (p + 6) (6 * l + k)) (f (p + 7) (6 * l + k))) (zt n ((f (p + 5) (6 * l + k)).toNat + 1) 0 (upB (f (p + 6) (6 * l + k)) (f (p + 7) (6 * l + k))) q.1 q.2).1 (zt n ((f (p + 5) (6 * l + k)).toNat + 1) 0 (upB (f (p + 6) (6 * l + k)) (f (p + 7) (6 * l + k))) q.1 q.2).2) q
theorem Z_keepRules (hw : wk sw w) {z : Nat} (hz : zn z = true) {p : Nat} (hp : pn p) (f : mj_F) {n l m : Nat} (hn : n ≤ 6) (hl : l < 24) (hm : f (p + 4) l = (m : Int)) (hm6 : m ≤ 6) (hc : ∀ k, k < m → 0 ≤ f (p + 5) (6 * l + k) ∧ f (p + 5) (6 * l + k) < 5) (v : Int) (C : Mt) : mj_call yZ_keepRules w (zs z f n v C) [.inr (.inl z), .inr (.inl p), .inl (l : Int)] = some (w, zs z f n (zkr f p n l m (v, C)).1 (zkr f p n l m (v, C)).2, none) := by
  rw [c_Z_keepRules hw _ z p _ hz hp]
  obtain ⟨u, h⟩ := loop_ex (fun k (q : Int × Mt) (u : mj_V × mj_V) => mj_run yZ_keepRules w (zs z f n q.1 q.2) 2 [.inr (.inl z), .inr (.inl p), .inl (l : Int), .inl (k : Int), u.1, u.2] []) (fun k q => zt n 0 ((f (p + 5) (6 * l + k)).toNat + 1) (loB (f (p + 6) (6 * l + k)) (f (p + 7) (6 * l + k))) (zt n ((f (p + 5) (6 * l + k)).toNat + 1) 0 (upB (f (p + 6) (6 * l + k)) (f (p + 7) (6 * l + k))) q.1 q.2).1 (zt n ((f (p + 5) (6 * l + k)).toNat + 1) 0 (upB (f (p + 6) (6 * l + k)) (f (p + 7) (6 * l + k))) q.1 q.2).2) m (fun k q u hk => by
    have e : mj_w (mj_w ((l : Int) * 6) + (k : Int)) = ((6 * l + k : Nat) : Int) := by unfold mj_w; omega
    have hck := hc k hk
    have e2 : mj_w (f (p + 5) (6 * l + k) + 1) = (((f (p + 5) (6 * l + k)).toNat + 1 : Nat) : Int) := by unfold mj_w; omega
    have hlt : (f (p + 5) (6 * l + k)).toNat + 1 < 6 := by omega
    have g : (0 : Int) ≤ ((6 * l + k : Nat) : Int) ∧ ((6 * l + k : Nat) : Int) < ((144 : Nat) : Int) := ⟨by omega, by omega⟩
    have z0 : (0 : Int) = ((0 : Nat) : Int) := rfl
    rw [l_Z_keepRules_2 hw _ z p _ _ _ _ hz hp, mj_gd_pos ⟨by omega, by omega⟩, Int.toNat_natCast, zs_p hz hp (by omega), hm, if_neg (by omega), e]
    simp only [mj_gd_pos g, Int.toNat_natCast]
    rw [zs_p hz hp (by omega), zs_p hz hp (by omega), zs_p hz hp (by omega), X_upperOf hw, mj_bi_some, e2]
    refine ⟨(.inl ((6 * l + k : Nat) : Int), .inl (((f (p + 5) (6 * l + k)).toNat + 1 : Nat) : Int)), ?_⟩
    generalize hcc : (f (p + 5) (6 * l + k)).toNat + 1 = cc at hlt ⊢
    have t1 := Z_tighten hw hz f hn q.1 q.2 (i := cc) (j := 0) (upB (f (p + 6) (6 * l + k)) (f (p + 7) (6 * l + k))) hlt (by omega)
    rw [show ((0 : Nat) : Int) = 0 from rfl] at t1
    rw [t1, mj_bu_some, zs_p hz hp (by omega), zs_p hz hp (by omega), X_lowerOf hw, mj_bi_some]
    have t2 := Z_tighten hw hz f hn (zt n cc 0 (upB (f (p + 6) (6 * l + k)) (f (p + 7) (6 * l + k))) q.1 q.2).1 (zt n cc 0 (upB (f (p + 6) (6 * l + k)) (f (p + 7) (6 * l + k))) q.1 q.2).2 (i := 0) (j := cc) (loB (f (p + 6) (6 * l + k)) (f (p + 7) (6 * l + k))) (by omega) hlt
    rw [show ((0 : Nat) : Int) = 0 from rfl] at t2
    rw [t2, mj_bu_some, wS (by omega)]) (v, C) (.inr (.inr (.inr 0)), .inr (.inr (.inr 0)))
  refine h.trans ?_
  rw [l_Z_keepRules_2 hw _ z p _ _ _ _ hz hp, mj_gd_pos ⟨by omega, by omega⟩, Int.toNat_natCast, zs_p hz hp (by omega), hm, if_pos (by omega)]
  rfl
end ZZ
