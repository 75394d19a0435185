/-! feed. -/
def bt4 (x : Int) (j : Nat) : Int := mj_w8 (mj_w8 (mj_shr x (24 - 8 * (j : Int))))
/-- j bytes of an int behind the tp-th of the row a; how many there are: field k of b -/
def p4F (F : mj_F) (a b k tp : Nat) (x : Int) (j : Nat) : mj_F := fun c q => if c = b ∧ q = k then ((tp + j : Nat) : Int) else if c = a ∧ tp ≤ q ∧ q < tp + j then bt4 x (q - tp) else F c q
theorem p4F_0 {F : mj_F} {a b k tp : Nat} {x : Int} (h : F b k = (tp : Int)) : p4F F a b k tp x 0 = F := by
  funext c q
  unfold p4F
  by_cases h1 : c = b ∧ q = k
  · rw [if_pos h1, h1.1, h1.2, h]; rfl
  · rw [if_neg h1, if_neg (by omega)]
theorem p4F_k {F : mj_F} {a b k tp : Nat} {x : Int} {j : Nat} : p4F F a b k tp x j b k = ((tp + j : Nat) : Int) := if_pos ⟨rfl, rfl⟩
theorem p4F_S {F : mj_F} {a b k tp : Nat} {x : Int} {j : Nat} (hab : a ≠ b) : mj_u (mj_u (p4F F a b k tp x j) a (tp + j) (bt4 x j)) b k ((tp + (j + 1) : Nat) : Int) = p4F F a b k tp x (j + 1) := by
  funext c q
  unfold mj_u p4F
  by_cases h1 : c = b ∧ q = k
  · rw [if_pos h1, if_pos h1]
  · rw [if_neg h1, if_neg h1, if_neg h1]
    by_cases h2 : c = a ∧ q = tp + j
    · rw [if_pos h2, if_pos ⟨h2.1, by omega, by omega⟩, h2.2, show tp + j - tp = j by omega]
    · rw [if_neg h2]
      by_cases h3 : c = a ∧ tp ≤ q ∧ q < tp + j
      · rw [if_pos h3, if_pos ⟨h3.1, h3.2.1, by omega⟩]
      · rw [if_neg h3, if_neg (by omega)]
theorem w8m {j : Nat} (h : j < 4) : mj_w (24 - 8 * (j : Int) + (-8)) = 24 - 8 * ((j + 1 : Nat) : Int) := by unfold mj_w; omega
theorem bt4_r (x : Int) (j : Nat) : -128 ≤ bt4 x j ∧ bt4 x j < 128 := by unfold bt4 mj_w8; omega
section FE
variable {sw : Bool} {w : mj_W}
theorem R_putBytes (hw : wk sw w) (F : mj_F) {tp : Nat} (h : F 3 1 = (tp : Int)) (ht : tp + 4 ≤ 900) (x : Int) : mj_call yR_putBytes w F [.inr (.inl 3), .inl x] = some (w, p4F F 4 3 1 tp x 4, none) := by
  rw [c_R_putBytes hw]
  have hl := loop_st (fun j => mj_run yR_putBytes w (p4F F 4 3 1 tp x j) 3 [.inr (.inl 3), .inl x, .inl (24 - 8 * (j : Int))] []) (Nat.zero_le 4) (fun j _ hj => by
    have e1 : ∀ v, mj_u (p4F F 4 3 1 tp x j) 4 (tp + j) v 3 1 = ((tp + j : Nat) : Int) := fun v => by rw [u_o (Or.inl (by decide)), p4F_k]
    rw [l_R_putBytes_3 hw, if_neg (by omega), p4F_k, if_neg (by omega), mj_gd_pos ⟨by omega, by omega⟩, Int.toNat_natCast, e1, wS (by omega), w8m hj, show tp + j + 1 = tp + (j + 1) by omega, ← p4F_S (by decide)]
    rfl)
  rw [p4F_0 h] at hl
  refine hl.trans ?_
  rw [l_R_putBytes_3 hw, if_pos (by decide)]
theorem M_four (hw : wk sw w) (F : mj_F) {tp : Nat} (h : F 223 25 = (tp : Int)) (ht : tp + 4 ≤ 900) (x : Int) : mj_call yM_four w F [.inr (.inl 223), .inl x] = some (w, p4F F 240 223 25 tp x 4, none) := by
  rw [c_M_four hw]
  have hl := loop_st (fun j => mj_run yM_four w (p4F F 240 223 25 tp x j) 3 [.inr (.inl 223), .inl x, .inl (24 - 8 * (j : Int))] []) (Nat.zero_le 4) (fun j _ hj => by
    have e1 : ∀ v, mj_u (p4F F 240 223 25 tp x j) 240 (tp + j) v 223 25 = ((tp + j : Nat) : Int) := fun v => by rw [u_o (Or.inl (by decide)), p4F_k]
    rw [l_M_four_3 hw, if_neg (by omega), p4F_k, mj_gd_pos ⟨by omega, by omega⟩, Int.toNat_natCast, e1, wS (by omega), w8m hj, show tp + j + 1 = tp + (j + 1) by omega, ← p4F_S (by decide)]
    rfl)
  rw [p4F_0 h] at hl
  refine hl.trans ?_
  rw [l_M_four_3 hw, if_pos (by decide)]
/-- five ints put behind one another -/
def p20 (F : mj_F) (a b k tp : Nat) (x1 x2 x3 x4 x5 : Int) : mj_F := p4F (p4F (p4F (p4F (p4F F a b k tp x1 4) a b k (tp + 4) x2 4) a b k (tp + 8) x3 4) a b k (tp + 12) x4 4) a b k (tp + 16) x5 4
theorem p4F_o {F : mj_F} {a b k tp : Nat} {x : Int} {j c q : Nat} (h1 : c ≠ a) (h2 : c ≠ b ∨ q ≠ k) : p4F F a b k tp x j c q = F c q := by
  unfold p4F
  rw [if_neg (by omega), if_neg (by omega)]
theorem p20_o {F : mj_F} {a b k tp : Nat} {x1 x2 x3 x4 x5 : Int} {c q : Nat} (h1 : c ≠ a) (h2 : c ≠ b ∨ q ≠ k) : p20 F a b k tp x1 x2 x3 x4 x5 c q = F c q := by
  unfold p20
  rw [p4F_o h1 h2, p4F_o h1 h2, p4F_o h1 h2, p4F_o h1 h2, p4F_o h1 h2]
theorem p4F_a {F : mj_F} {a b k tp : Nat} {x : Int} {j q : Nat} (hab : a ≠ b) : p4F F a b k tp x j a q = if tp ≤ q ∧ q < tp + j then bt4 x (q - tp) else F a q := by
  unfold p4F
  rw [if_neg (fun z => hab z.1)]
  by_cases h : tp ≤ q ∧ q < tp + j
  · rw [if_pos ⟨rfl, h.1, h.2⟩, if_pos h]
  · rw [if_neg (fun z => h z.2), if_neg h]
theorem p4F_at {F G : mj_F} {a a' b b' k k' tp : Nat} {x : Int} {j q : Nat} (hab : a ≠ b) (hab' : a' ≠ b') (h : q < tp → F a q = G a' q ∧ -128 ≤ F a q ∧ F a q < 128) (hq : q < tp + j) : p4F F a b k tp x j a q = p4F G a' b' k' tp x j a' q ∧ -128 ≤ p4F F a b k tp x j a q ∧ p4F F a b k tp x j a q < 128 := by
  rw [p4F_a hab, p4F_a hab']
  by_cases h1 : tp ≤ q
  · rw [if_pos ⟨h1, hq⟩, if_pos ⟨h1, hq⟩]
    exact ⟨rfl, bt4_r _ _⟩
  · rw [if_neg (fun z => h1 z.1), if_neg (fun z => h1 z.1)]
    exact h (by omega)
theorem ok_feed (hw : wk sw w) {f : mj_F} (r : RR sw f) (x1 x2 x3 x4 x5 : Int) : Ok sw w f yX_feed yM_feed [.inl x1, .inl x2, .inl x3, .inl x4, .inl x5] := by
  obtain ⟨c, np, ne, st, N, L, nx, d, tp, ed, r⟩ := r
  obtain ⟨t1, t2, t3, t4, t5, t6⟩ := r.2.2.2.2.2
  have wt : mj_w ((tp : Int) + 20) = ((tp + 20 : Nat) : Int) := wA (a := tp) (b := 20) (by omega)
  have t3' : mj_u f 223 0 0 223 25 = (tp : Int) := t3
  by_cases h : tp + 20 ≤ 900
  · have k1 : ∀ (F : mj_F) (t : Nat) (x : Int), p4F F 4 3 1 t x 4 3 1 = ((t + 4 : Nat) : Int) := fun F t x => p4F_k
    have k2 : ∀ (F : mj_F) (t : Nat) (x : Int), p4F F 240 223 25 t x 4 223 25 = ((t + 4 : Nat) : Int) := fun F t x => p4F_k
    have eX : mj_call yX_feed w f [.inr (.inl 2), .inl x1, .inl x2, .inl x3, .inl x4, .inl x5] = some (w, p20 f 4 3 1 tp x1 x2 x3 x4 x5, some (.inl ((tp + 20 : Nat) : Int))) := by
      rw [c_X_feed hw, t2, wt, if_pos (by omega), R_putBytes hw f t2 (by omega), mj_bu_some, R_putBytes hw _ (k1 _ _ _) (by omega), mj_bu_some, R_putBytes hw _ (k1 _ _ _) (by omega), mj_bu_some, R_putBytes hw _ (k1 _ _ _) (by omega), mj_bu_some, R_putBytes hw _ (k1 _ _ _) (by omega), mj_bu_some, k1]
      rfl
    obtain ⟨F1, hF1⟩ : ∃ F1, F1 = p20 f 4 3 1 tp x1 x2 x3 x4 x5 := ⟨_, rfl⟩
    have o1 : ∀ a q, a ≠ 4 → (a ≠ 3 ∨ q ≠ 1) → F1 a q = f a q := fun a q b1 b2 => by rw [hF1]; exact p20_o b1 b2
    have f3 : mj_u F1 223 0 0 223 25 = (tp : Int) := by rw [mu0 (by decide), o1 223 25 (by decide) (Or.inl (by decide))]; exact t3
    have eM : mj_call yM_feed w F1 [.inr (.inl 223), .inl x1, .inl x2, .inl x3, .inl x4, .inl x5] = some (w, p20 (mj_u F1 223 0 0) 240 223 25 tp x1 x2 x3 x4 x5, some (.inl ((tp + 20 : Nat) : Int))) := by
      rw [c_M_feed hw, f3, wt, if_pos (by omega), M_four hw _ f3 (by omega), mj_bu_some, M_four hw _ (k2 _ _ _) (by omega), mj_bu_some, M_four hw _ (k2 _ _ _) (by omega), mj_bu_some, M_four hw _ (k2 _ _ _) (by omega), mj_bu_some, M_four hw _ (k2 _ _ _) (by omega), mj_bu_some, k2]
      rfl
    rw [← hF1] at eX
    obtain ⟨H, hH⟩ : ∃ H, H = p20 (mj_u F1 223 0 0) 240 223 25 tp x1 x2 x3 x4 x5 := ⟨_, rfl⟩
    rw [← hH] at eM
    have o2 : ∀ a q, a ≠ 4 → a ≠ 240 → (a ≠ 3 ∨ q ≠ 1) → (a ≠ 223 ∨ (q ≠ 25 ∧ q ≠ 0)) → H a q = f a q := fun a q b1 b2 b3 b4 => by
      rw [hH, p20_o b2 (by omega)]
      by_cases ha : a = 223
      · subst ha
        rw [mu0 (by omega), o1 _ _ b1 b3]
      · rw [mu0a ha, o1 _ _ b1 b3]
    have hA : ∀ a, a ≠ 4 → a ≠ 240 → a ≠ 3 → a ≠ 223 → H a = f a := fun a b1 b2 b3 b4 => funext fun q => o2 a q b1 b2 (Or.inl b3) (Or.inl b4)
    have hp := pl_o sw
    obtain ⟨ra, rb, rc, rd, re, _⟩ := r
    refine ⟨F1, H, _, eX, eM, c, np, ne, st, N, L, nx, d, tp + 20, ed, RA_c (fun k hk => hA _ (by omega) (by omega) (by omega) (by omega)) (fun q b1 b2 => o2 223 q (by decide) (by decide) (Or.inl (by decide)) (Or.inr ⟨by omega, by omega⟩)) (fun a b1 b2 => hA a (by omega) (by omega) (by omega) (by omega)) ra, RB_c (fun a b1 b2 => hA a (by omega) (by omega) (by omega) (by omega)) (hA 234 (by decide) (by decide) (by decide) (by decide)) rb, RC_c (fun k hk => hA _ (by omega) (by omega) (by omega) (by omega)) (o2 37 9 (by decide) (by decide) (Or.inl (by decide)) (Or.inl (by decide))) (o2 223 23 (by decide) (by decide) (Or.inl (by decide)) (Or.inr ⟨by decide, by decide⟩)) (fun a b1 b2 => hA a (by omega) (by omega) (by omega) (by omega)) (fun a b1 b2 => hA a (by omega) (by omega) (by omega) (by omega)) (fun a b1 b2 b3 => hA a (by omega) (by omega) (by omega) (by omega)) rc, RD_c (hA 168 (by decide) (by decide) (by decide) (by decide)) (hA 169 (by decide) (by decide) (by decide) (by decide)) (hA 171 (by decide) (by decide) (by decide) (by decide)) (hA 172 (by decide) (by decide) (by decide) (by decide)) (fun q _ _ => o2 170 q (by decide) (by decide) (Or.inl (by decide)) (Or.inl (by decide))) (fun q _ => o2 234 q (by decide) (by decide) (Or.inl (by decide)) (Or.inl (by decide))) (fun a b1 b2 => hA a (by omega) (by omega) (by omega) (by omega)) rd, RE_c (fun a b1 b2 => hA a (by omega) (by omega) (by omega) (by omega)) (o2 223 18 (by decide) (by decide) (Or.inl (by decide)) (Or.inr ⟨by decide, by decide⟩)) (hA 234 (by decide) (by decide) (by decide) (by decide)) (hA 235 (by decide) (by decide) (by decide) (by decide)) (hA 228 (by decide) (by decide) (by decide) (by decide)) (hA 229 (by decide) (by decide) (by decide) (by decide)) re, ⟨h, ?_, ?_, fun i hi => ?_, ?_, ?_⟩⟩
    · rw [hH, p20_o (by decide) (Or.inl (by decide)), mu0a (by decide), hF1]
      exact k1 _ _ _
    · rw [hH]
      exact k2 _ _ _
    · have e4 : H 4 i = F1 4 i := by rw [hH, p20_o (by decide) (Or.inl (by decide)), mu0a (by decide)]
      have e6 : p20 f 4 3 1 tp x1 x2 x3 x4 x5 4 i = p20 (mj_u F1 223 0 0) 240 223 25 tp x1 x2 x3 x4 x5 240 i ∧ -128 ≤ p20 f 4 3 1 tp x1 x2 x3 x4 x5 4 i ∧ p20 f 4 3 1 tp x1 x2 x3 x4 x5 4 i < 128 := by
        unfold p20
        refine p4F_at (by decide) (by decide) (fun h5 => p4F_at (by decide) (by decide) (fun h4 => p4F_at (by decide) (by decide) (fun h3 => p4F_at (by decide) (by decide) (fun h2 => p4F_at (by decide) (by decide) (fun h1 => ?_) h2) h3) h4) h5) hi
        have e5 : mj_u F1 223 0 0 240 i = f 240 i := by rw [mu0a (by decide)]; exact o1 240 i (by decide) (Or.inl (by decide))
        rw [e5]
        exact t4 i h1
      rw [← hF1, ← hH] at e6
      rw [e4]
      exact e6
    · rw [o2 3 8 (by decide) (by decide) (Or.inr (by decide)) (Or.inl (by decide)), o2 223 31 (by decide) (by decide) (Or.inl (by decide)) (Or.inr ⟨by decide, by decide⟩)]; exact t5
    · rw [o2 3 9 (by decide) (by decide) (Or.inr (by decide)) (Or.inl (by decide)), o2 223 32 (by decide) (by decide) (Or.inl (by decide)) (Or.inr ⟨by decide, by decide⟩)]; exact t6
  · refine Ok_i ⟨c, np, ne, st, N, L, nx, d, tp, ed, r⟩ (F1 := f) (F3 := mj_u f 223 0 0) (v := -1) ?_ (Cor_r _ _) ?_ Cor_0
    · rw [c_X_feed hw, t2, wt, if_neg (by omega)]
    · rw [c_M_feed hw, t3', wt, if_neg (by omega)]
end FE
