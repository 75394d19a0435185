/-! Zones: sets, down, waits and steps, laid, taken over, joined, met, made rough, whole. -/
section ZZ
variable {sw : Bool} {w : mj_W}
/-- sets of an edge done -/
def zap (f : mj_F) (p n e m : Nat) (C : Mt) : Mt := itr m (fun k C => zas n ((f (p + 11) (4 * e + k)).toNat + 1) (am (f (p + 12) (4 * e + k))) (am (mj_w (-(f (p + 12) (4 * e + k))))) C) C
theorem Z_applySets (hw : wk sw w) {z : Nat} (hz : zn z = true) {p : Nat} (hp : pn p) (f : mj_F) {n e m : Nat} (hn : n ≤ 6) (he : e < 16) (hm : f (p + 10) e = (m : Int)) (hm4 : m ≤ 4) (hc : ∀ k, k < m → 0 ≤ f (p + 11) (4 * e + k) ∧ f (p + 11) (4 * e + k) < 5) (v : Int) (C : Mt) : mj_call yZ_applySets w (zs z f n v C) [.inr (.inl z), .inr (.inl p), .inl (e : Int)] = some (w, zs z f n v (zap f p n e m C), none) := by
  rw [c_Z_applySets hw _ z p _ hz hp]
  obtain ⟨u, h⟩ := loop_ex (fun k (C : Mt) (u : mj_V) => mj_run yZ_applySets w (zs z f n v C) 2 [.inr (.inl z), .inr (.inl p), .inl (e : Int), .inl (k : Int), u] []) (fun k C => zas n ((f (p + 11) (4 * e + k)).toNat + 1) (am (f (p + 12) (4 * e + k))) (am (mj_w (-(f (p + 12) (4 * e + k))))) C) m (fun k C u hk => by
    have e1 : mj_w (mj_w ((e : Int) * 4) + (k : Int)) = ((4 * e + k : Nat) : Int) := by unfold mj_w; omega
    have hck := hc k hk
    have e2 : mj_w (f (p + 11) (4 * e + k) + 1) = (((f (p + 11) (4 * e + k)).toNat + 1 : Nat) : Int) := by unfold mj_w; omega
    have hlt : (f (p + 11) (4 * e + k)).toNat + 1 < 6 := by omega
    have g : (0 : Int) ≤ ((4 * e + k : Nat) : Int) ∧ ((4 * e + k : Nat) : Int) < ((64 : Nat) : Int) := ⟨by omega, by omega⟩
    rw [l_Z_applySets_2 hw _ z p _ _ _ hz hp, mj_gd_pos ⟨by omega, by omega⟩, Int.toNat_natCast, zs_p hz hp (by omega), hm, if_neg (by omega), e1]
    simp only [mj_gd_pos g, Int.toNat_natCast]
    rw [zs_p hz hp (by omega), zs_p hz hp (by omega), e2, Z_assign hw hz f (by omega) hlt hn v C, mj_bu_some, wS (by omega)]
    exact ⟨_, rfl⟩) C (.inr (.inr (.inr 0)))
  refine h.trans ?_
  rw [l_Z_applySets_2 hw _ z p _ _ _ hz hp, mj_gd_pos ⟨by omega, by omega⟩, Int.toNat_natCast, zs_p hz hp (by omega), hm, if_pos (by omega)]
  rfl
/-- the plan has what a list of whens must have -/
def okr (f : mj_F) (p l : Nat) : Prop := ∃ m : Nat, f (p + 4) l = (m : Int) ∧ m ≤ 6 ∧ ∀ k, k < m → 0 ≤ f (p + 5) (6 * l + k) ∧ f (p + 5) (6 * l + k) < 5
def oks (f : mj_F) (p e : Nat) : Prop := ∃ m : Nat, f (p + 10) e = (m : Int) ∧ m ≤ 4 ∧ ∀ k, k < m → 0 ≤ f (p + 11) (4 * e + k) ∧ f (p + 11) (4 * e + k) < 5
def zkl (f : mj_F) (p n l : Nat) (q : Int × Mt) : Int × Mt := zkr f p n l (f (p + 4) l).toNat q
def zae (f : mj_F) (p n e : Nat) (C : Mt) : Mt := zap f p n e (f (p + 10) e).toNat C
theorem Z_keep (hw : wk sw w) {z : Nat} (hz : zn z = true) {p : Nat} (hp : pn p) (f : mj_F) {n l : Nat} (hn : n ≤ 6) (hl : l < 24) (ho : okr f p l) (q : Int × Mt) : mj_call yZ_keepRules w (zs z f n q.1 q.2) [.inr (.inl z), .inr (.inl p), .inl (l : Int)] = some (w, zs z f n (zkl f p n l q).1 (zkl f p n l q).2, none) := by
  obtain ⟨m, h1, h2, h3⟩ := ho
  have h := Z_keepRules hw hz hp f hn hl h1 h2 h3 q.1 q.2
  unfold zkl
  rw [h1, Int.toNat_natCast]
  exact h
theorem Z_sets (hw : wk sw w) {z : Nat} (hz : zn z = true) {p : Nat} (hp : pn p) (f : mj_F) {n e : Nat} (hn : n ≤ 6) (he : e < 16) (ho : oks f p e) (v : Int) (C : Mt) : mj_call yZ_applySets w (zs z f n v C) [.inr (.inl z), .inr (.inl p), .inl (e : Int)] = some (w, zs z f n v (zae f p n e C), none) := by
  obtain ⟨m, h1, h2, h3⟩ := ho
  have h := Z_applySets hw hz hp f hn he h1 h2 h3 v C
  unfold zae
  rw [h1, Int.toNat_natCast]
  exact h
theorem X_stayRules (hw : wk sw w) (F : mj_F) (x : Int) : mj_call yX_stayRules w F [.inl x] = some (w, F, some (.inl x)) := c_X_stayRules hw F x
theorem X_edgeRules (hw : wk sw w) (F : mj_F) {e : Nat} (he : e < 16) : mj_call yX_edgeRules w F [.inl (e : Int)] = some (w, F, some (.inl ((8 + e : Nat) : Int))) := by
  have e1 : mj_w (8 + (e : Int)) = ((8 + e : Nat) : Int) := by unfold mj_w; omega
  rw [c_X_edgeRules hw, e1]
/-- WAIT -/
def zwt (f : mj_F) (p n l : Nat) (q : Int × Mt) : Int × Mt := zkl f p n l ((zkl f p n l q).1, zup n (zkl f p n l q).2)
theorem Z_waitIn (hw : wk sw w) {z : Nat} (hz : zn z = true) {p : Nat} (hp : pn p) (f : mj_F) {n l : Nat} (h1 : 1 ≤ n) (hn : n ≤ 6) (hl : l < 24) (ho : okr f p l) (q : Int × Mt) : mj_call yZ_waitIn w (zs z f n q.1 q.2) [.inr (.inl z), .inr (.inl p), .inl (l : Int)] = some (w, zs z f n (zwt f p n l q).1 (zwt f p n l q).2, none) := by
  rw [c_Z_waitIn hw _ z p _ hz hp, X_stayRules hw, mj_bi_some, Z_keep hw hz hp f hn hl ho q, mj_bu_some, Z_goUp hw hz f h1 hn, mj_bu_some, X_stayRules hw, mj_bi_some]
  have h := Z_keep hw hz hp f hn hl ho ((zkl f p n l q).1, zup n (zkl f p n l q).2)
  rw [h, mj_bu_some]
  rfl
/-- STEP -/
def zst (f : mj_F) (p n e l : Nat) (q : Int × Mt) : Int × Mt := zkl f p n l ((zkl f p n l ((zkl f p n (8 + e) q).1, zae f p n e (zkl f p n (8 + e) q).2)).1, zup n (zkl f p n l ((zkl f p n (8 + e) q).1, zae f p n e (zkl f p n (8 + e) q).2)).2)
theorem Z_stepBy (hw : wk sw w) {z : Nat} (hz : zn z = true) {p : Nat} (hp : pn p) (f : mj_F) {n e l : Nat} (h1 : 1 ≤ n) (hn : n ≤ 6) (he : e < 16) (hl : l < 8) (hto : f (p + 9) e = (l : Int)) (ho : okr f p l) (hoe : okr f p (8 + e)) (hos : oks f p e) (q : Int × Mt) : mj_call yZ_stepBy w (zs z f n q.1 q.2) [.inr (.inl z), .inr (.inl p), .inl (e : Int)] = some (w, zs z f n (zst f p n e l q).1 (zst f p n e l q).2, none) := by
  rw [c_Z_stepBy hw _ z p _ hz hp, mj_gd_pos ⟨by omega, by omega⟩, Int.toNat_natCast, zs_p hz hp (by omega), hto, X_stayRules hw, mj_bi_some, X_edgeRules hw _ he, mj_bi_some, Z_keep hw hz hp f hn (by omega) hoe q, mj_bu_some, Z_sets hw hz hp f hn he hos, mj_bu_some]
  have h := Z_keep hw hz hp f hn (by omega : l < 24) ho ((zkl f p n (8 + e) q).1, zae f p n e (zkl f p n (8 + e) q).2)
  rw [h, mj_bu_some, Z_goUp hw hz f h1 hn, mj_bu_some]
  have h2 := Z_keep hw hz hp f hn (by omega : l < 24) ho ((zkl f p n l ((zkl f p n (8 + e) q).1, zae f p n e (zkl f p n (8 + e) q).2)).1, zup n (zkl f p n l ((zkl f p n (8 + e) q).1, zae f p n e (zkl f p n (8 + e) q).2)).2)
  rw [h2, mj_bu_some]
  rfl
/-- the least bound of a column's lower part -/
def dnl (n : Nat) (C : Mt) (c : Nat) : Int := itr (n - 1) (fun j l => if C (j + 1) c < l then C (j + 1) c else l) 1
def zdn (n : Nat) (C : Mt) : Mt := fun i j => if i = 0 ∧ 1 ≤ j ∧ j < n then dnl n C j else C i j
def zdk (n k : Nat) (C : Mt) : Mt := fun i j => if i = 0 ∧ 1 ≤ j ∧ j < k then dnl n C j else C i j
theorem Z_goDown (hw : wk sw w) {z : Nat} (hz : zn z = true) (f : mj_F) {n : Nat} (h1 : 1 ≤ n) (hn : n ≤ 6) (v : Int) (C : Mt) : mj_call yZ_goDown w (zs z f n v C) [.inr (.inl z)] = some (w, zs z f n v (zdn n C), none) := by
  rw [c_Z_goDown hw _ z hz]
  have key : ∀ d c (u : mj_V × mj_V), 1 ≤ c → c + d = n → mj_run yZ_goDown w (zs z f n v (zdk n c C)) 2 [.inr (.inl z), .inl (c : Int), u.1, u.2] [] = some (w, zs z f n v (zdn n C), none) := by
    intro d
    induction d with
    | zero =>
      intro c u hc hd
      rw [l_Z_goDown_2 hw _ z _ _ _ hz, zs_n, if_pos (by omega), show c = n by omega]
      rfl
    | succ d ih =>
      intro c u hc hd
      rw [l_Z_goDown_2 hw _ z _ _ _ hz, zs_n, if_neg (by omega)]
      have h := loop_eq (fun j (l : Int) => mj_run yZ_goDown w (zs z f n v (zdk n c C)) 14 [.inr (.inl z), .inl (c : Int), .inl l, .inl ((j + 1 : Nat) : Int)] []) (fun j l => if C (j + 1) c < l then C (j + 1) c else l) (n - 1) (fun j l hj => by
        rw [l_Z_goDown_14 hw _ z _ _ _ hz, zs_n, if_neg (by omega), Z_cell hw hz f n v _ (by omega) (by omega), mj_bi_some, wS (by omega)]
        have r : zdk n c C (j + 1) c = C (j + 1) c := by
          unfold zdk
          rw [if_neg (by omega)]
        rw [r]) 1
      refine h.trans ?_
      rw [l_Z_goDown_14 hw _ z _ _ _ hz, zs_n, if_pos (by omega), show (0 : Int) = ((0 : Nat) : Int) from rfl, Z_put hw hz f n v _ _ (by omega) (by omega), mj_bu_some, wS (by omega)]
      have r : um (zdk n c C) 0 c (dnl n C c) = zdk n (c + 1) C := by
        funext x y
        unfold um zdk
        by_cases hx : x = 0 ∧ y = c
        · rw [if_pos hx, if_pos (by omega), hx.2]
        · rw [if_neg hx]
          exact ifc (by omega) rfl rfl
      have := ih (c + 1) (.inl (dnl n C c), .inl ((n - 1 + 1 : Nat) : Int)) (by omega) (by omega)
      rw [← r] at this
      exact this
  have h0 : zdk n 1 C = C := by
    funext i j
    unfold zdk
    rw [if_neg (by omega)]
  have h := key (n - 1) 1 (.inr (.inr (.inr 0)), .inr (.inr (.inr 0))) (by omega) (by omega)
  rw [h0] at h
  exact h
end ZZ
