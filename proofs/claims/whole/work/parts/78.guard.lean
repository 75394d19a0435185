/-! Guards of the calls; a table worked on, on both sides. -/
theorem i01 {P : Prop} [Decidable P] : ((if P then (1 : Int) else 0) = 0) = ¬ P := by
  by_cases h : P
  · rw [if_pos h]; exact propext ⟨fun h' => absurd h' (by decide), fun h' => absurd h h'⟩
  · rw [if_neg h]; exact propext ⟨fun _ => h, fun _ => rfl⟩
theorem i01g {P : Prop} [Decidable P] : (if P then (1 : Int) else 0) = 0 ∨ (if P then (1 : Int) else 0) = 1 := by
  by_cases h : P
  · rw [if_pos h]; exact Or.inr rfl
  · rw [if_neg h]; exact Or.inl rfl
theorem gdN {j : Int} {n : Nat} (h : 0 ≤ j ∧ j < (n : Int)) {x : Option mj_O} : mj_gd (0 ≤ j ∧ j < ((n : Nat) : Int)) x = x := mj_gd_pos h x
section GU
variable {sw : Bool} {w : mj_W}
theorem X_isTable (hw : wk sw w) (F : mj_F) (x : Int) : mj_call yX_isTable w F [.inl x] = some (w, F, some (.inl (if 0 ≤ x ∧ x < 4 then 1 else 0))) := by
  rw [c_X_isTable hw]
  by_cases h : 0 ≤ x ∧ x < 4
  · rw [if_pos h, if_neg (by omega), if_neg (by omega)]
  · rw [if_neg h]
    by_cases h1 : x < 0
    · rw [if_pos h1]
    · rw [if_neg h1, if_pos (by omega)]
theorem M_isTable (hw : wk sw w) (F : mj_F) (x : Int) : mj_call yM_isTable w F [.inl x] = some (w, F, some (.inl (if 0 ≤ x ∧ x < 4 then 1 else 0))) := by
  rw [c_M_isTable hw, M_isIn hw, mj_bi_some, mj_gd_pos i01g]
  by_cases h : 0 ≤ x ∧ x < 4
  · rw [if_pos h, if_pos (by omega)]
  · rw [if_neg h, if_neg (by omega)]
theorem M_isTwo (hw : wk sw w) (F : mj_F) (x : Int) : mj_call yM_isTwo w F [.inl x] = some (w, F, some (.inl (if 0 ≤ x ∧ x < 2 then 1 else 0))) := by
  rw [c_M_isTwo hw, M_isIn hw, mj_bi_some, mj_gd_pos i01g]
  by_cases h : 0 ≤ x ∧ x < 2
  · rw [if_pos h, if_pos (by omega)]
  · rw [if_neg h, if_neg (by omega)]
theorem X_isClock (hw : wk sw w) (F : mj_F) {n : Nat} (hn : F (pl sw) 1 = (n : Int)) (x : Int) : mj_call yX_isClock w F [.inr (.inl 2), .inl x] = some (w, F, some (.inl (if 0 ≤ x ∧ x < (n : Int) then 1 else 0))) := by
  rw [c_X_isClock hw, hn]
  by_cases h : 0 ≤ x ∧ x < (n : Int)
  · rw [if_pos h, if_neg (by omega), if_neg (by omega)]
  · rw [if_neg h]
    by_cases h1 : x < 0
    · rw [if_pos h1]
    · rw [if_neg h1, if_pos (by omega)]
theorem X_isPlace (hw : wk sw w) (F : mj_F) {n : Nat} (hn : F (pl sw) 2 = (n : Int)) (x : Int) : mj_call yX_isPlace w F [.inr (.inl 2), .inl x] = some (w, F, some (.inl (if 0 ≤ x ∧ x < (n : Int) then 1 else 0))) := by
  rw [c_X_isPlace hw, hn]
  by_cases h : 0 ≤ x ∧ x < (n : Int)
  · rw [if_pos h, if_neg (by omega), if_neg (by omega)]
  · rw [if_neg h]
    by_cases h1 : x < 0
    · rw [if_pos h1]
    · rw [if_neg h1, if_pos (by omega)]
theorem X_isEdge (hw : wk sw w) (F : mj_F) {n : Nat} (hn : F (pl sw) 3 = (n : Int)) (x : Int) : mj_call yX_isEdge w F [.inr (.inl 2), .inl x] = some (w, F, some (.inl (if 0 ≤ x ∧ x < (n : Int) then 1 else 0))) := by
  rw [c_X_isEdge hw, hn]
  by_cases h : 0 ≤ x ∧ x < (n : Int)
  · rw [if_pos h, if_neg (by omega), if_neg (by omega)]
  · rw [if_neg h]
    by_cases h1 : x < 0
    · rw [if_pos h1]
    · rw [if_neg h1, if_pos (by omega)]
theorem X_isNode (hw : wk sw w) (F : mj_F) {n : Nat} (hn : F 37 9 = (n : Int)) (x : Int) : mj_call yX_isNode w F [.inr (.inl 2), .inl x] = some (w, F, some (.inl (if 0 ≤ x ∧ x < (n : Int) then 1 else 0))) := by
  rw [c_X_isNode hw, hn]
  by_cases h : 0 ≤ x ∧ x < (n : Int)
  · rw [if_pos h, if_neg (by omega), if_neg (by omega)]
  · rw [if_neg h]
    by_cases h1 : x < 0
    · rw [if_pos h1]
    · rw [if_neg h1, if_pos (by omega)]
theorem wN1 {n : Nat} (h : n ≤ 1000) : mj_w ((n : Int) - 1) = (n : Int) - 1 := by unfold mj_w; omega
theorem M_in1 (hw : wk sw w) (F : mj_F) {n : Nat} {y : Int} (hn : y = (n : Int)) (hk : n ≤ 1000) (l x : Int) : mj_call yM_isIn w F [.inl x, .inl l, .inl (mj_w (y - 1))] = some (w, F, some (.inl (if l ≤ x ∧ x < (n : Int) then 1 else 0))) := by
  rw [hn, wN1 hk, M_isIn hw]
  by_cases h : l ≤ x ∧ x < (n : Int)
  · rw [if_pos h, if_pos (by omega)]
  · rw [if_neg h, if_neg (by omega)]
theorem M_isClock (hw : wk sw w) (F : mj_F) {n : Nat} (hn : F 223 2 = (n : Int)) (hk : n ≤ 1000) (x : Int) : mj_call yM_isClock w F [.inr (.inl 223), .inl x] = some (w, F, some (.inl (if 0 ≤ x ∧ x < (n : Int) then 1 else 0))) := by
  rw [c_M_isClock hw, M_in1 hw F hn hk, mj_bi_some, mj_gd_pos i01g]
theorem M_isPlace (hw : wk sw w) (F : mj_F) {n : Nat} (hn : F 223 3 = (n : Int)) (hk : n ≤ 1000) (x : Int) : mj_call yM_isPlace w F [.inr (.inl 223), .inl x] = some (w, F, some (.inl (if 0 ≤ x ∧ x < (n : Int) then 1 else 0))) := by
  rw [c_M_isPlace hw, M_in1 hw F hn hk, mj_bi_some, mj_gd_pos i01g]
theorem M_isEdge (hw : wk sw w) (F : mj_F) {n : Nat} (hn : F 223 4 = (n : Int)) (hk : n ≤ 1000) (x : Int) : mj_call yM_isEdge w F [.inr (.inl 223), .inl x] = some (w, F, some (.inl (if 0 ≤ x ∧ x < (n : Int) then 1 else 0))) := by
  rw [c_M_isEdge hw, M_in1 hw F hn hk, mj_bi_some, mj_gd_pos i01g]
theorem X_isPair (hw : wk sw w) (F : mj_F) {n : Nat} (hn : F (pl sw) 1 = (n : Int)) (x y : Int) : mj_call yX_isPair w F [.inr (.inl 2), .inl x, .inl y] = some (w, F, some (.inl (if (-1 ≤ x ∧ x < (n : Int)) ∧ (-1 ≤ y ∧ y < (n : Int)) ∧ x ≠ y then 1 else 0))) := by
  simp only [c_X_isPair hw, X_isClock hw F hn, mj_bi_some, i01]
  by_cases h : (-1 ≤ x ∧ x < (n : Int)) ∧ (-1 ≤ y ∧ y < (n : Int)) ∧ x ≠ y
  · rw [if_pos h]
    repeat' split
    all_goals first | rfl | (exfalso; omega)
  · rw [if_neg h]
    repeat' split
    all_goals first | rfl | (exfalso; omega)
theorem M_arePair (hw : wk sw w) (F : mj_F) {n : Nat} (hn : F 223 2 = (n : Int)) (hk : n ≤ 1000) (x y : Int) : mj_call yM_arePair w F [.inr (.inl 223), .inl x, .inl y] = some (w, F, some (.inl (if (-1 ≤ x ∧ x < (n : Int)) ∧ (-1 ≤ y ∧ y < (n : Int)) ∧ x ≠ y then 1 else 0))) := by
  simp only [c_M_arePair hw, M_in1 hw F hn hk, mj_bi_some, i01]
  by_cases h : (-1 ≤ x ∧ x < (n : Int)) ∧ (-1 ≤ y ∧ y < (n : Int)) ∧ x ≠ y
  · rw [if_pos h]
    repeat' split
    all_goals first | rfl | (exfalso; omega)
  · rw [if_neg h]
    repeat' split
    all_goals first | rfl | (exfalso; omega)
theorem zs_gm {z : Nat} {f : mj_F} {n v : Int} {C : Mt} {i j : Nat} (hi : i < 6) (hj : j < 6) : gm (z + 1) 6 (zs z f n v C) i j = C i j := zs_c hi hj
/-- what the reference needs of the memory behind the class's call -/
def LD (sw : Bool) (f g : mj_F) (c np ne st : Nat) : Prop := RA sw g c np ne st ∧ (∀ k, k ≤ 12 → g (pl sw + k) = f (pl sw + k)) ∧ (∀ a, 224 ≤ a → g a = f a) ∧ ∀ q, cM q → g 223 q = f 223 q
theorem LD_0 {f : mj_F} {c np ne st N L nx d tp : Nat} {ed : Nat → Nat} (r : RX sw f c np ne st N L nx d tp ed) : LD sw f (mj_u f 223 0 0) c np ne st := ⟨(RX_c Cor_0 r).1, fun k hk => funext fun q => u_o (Or.inl (by have := pl_o sw; omega)), fun a ha => funext fun q => u_o (Or.inl (by omega)), fun q hq => u_o (Or.inr (by unfold cM at hq; omega))⟩
theorem op_ok (hw : wk sw w) {f : mj_F} {c np ne st N L nx d tp t : Nat} {ed : Nat → Nat} (r : RX sw f c np ne st N L nx d tp ed) (ht : t < 4) {q : Int × Mt} (hq : q.1 = 0 ∨ q.1 = 1) : ∃ (F1 : mj_F) (a : Int), mj_call yX_settle w (zs 32 f ((c + 1 : Nat) : Int) q.1 q.2) [.inr (.inl 2), .inl (t : Int)] = some (w, F1, some (.inl a)) ∧ LD sw f (mj_u F1 223 0 0) c np ne st ∧ ∀ (M : Int) (r' : Int × Mt), TS (c + 1) M q r' → ∃ F3, mj_call yM_becomesTable w (rq (mj_u F1 223 0 0) ((c + 1 : Nat) : Int) r'.1 r'.2) [.inr (.inl 223), .inl (t : Int)] = some (w, F3, some (.inl a)) ∧ RR sw F3 := by
  have hp := pl_o sw
  have hc4 : c ≤ 4 := r.1.1.1
  have hcr : Cor sw f (zs 32 f ((c + 1 : Nat) : Int) q.1 q.2) := Cor_zs (Or.inl rfl)
  obtain ⟨F1, a, s1, s2, s3, s4⟩ := settle_both hw r hcr ht zs_n (by rw [zs_v]; exact hq)
  have e1 : ∀ x, 223 ≤ x → F1 x = f x := fun x hx => (s2 x hx).trans (funext fun k => zs_o (by omega) (by omega))
  have e2 : ∀ k, k ≤ 12 → F1 (pl sw + k) = f (pl sw + k) := fun k hk => (s3 k hk).trans (funext fun k => zs_o (by omega) (by omega))
  refine ⟨F1, a, s1, ⟨?_, fun k hk => ?_, fun x hx => ?_, fun q hq => ?_⟩, fun M r' hT => ?_⟩
  · refine RA_c (fun k hk => ?_) (fun q h1 h2 => ?_) (fun x h1 h2 => ?_) r.1
    · rw [← e2 k hk]; exact funext fun q => u_o (Or.inl (by omega))
    · rw [← e1 223 (by omega)]; exact u_o (Or.inr (by omega))
    · rw [← e1 x (by omega)]; exact funext fun q => u_o (Or.inl (by omega))
  · rw [← e2 k hk]; exact funext fun q => u_o (Or.inl (by omega))
  · rw [← e1 x (by omega)]; exact funext fun q => u_o (Or.inl (by omega))
  · rw [← e1 223 (by omega)]; exact u_o (Or.inr (by unfold cM at hq; omega))
  · exact s4 (mj_u F1 223 0 0) M r'.1 r'.2 Cor_0 (TS_e hT (show zs 32 f ((c + 1 : Nat) : Int) q.1 q.2 32 2 = q.1 from zs_v) rfl (fun i j hi hj => zs_gm (by omega) (by omega)) (fun _ _ _ _ => rfl))
theorem bec (hw : wk sw w) {f : mj_F} {c np ne st N L nx d tp t : Nat} {ed : Nat → Nat} (r : RX sw f c np ne st N L nx d tp ed) (ht : t < 4) : mj_call yZ_become w f [.inr (.inl 32), .inr (.inl (215 + 2 * t))] = some (w, zs 32 f ((c + 1 : Nat) : Int) (f (215 + 2 * t) 2) (gm (216 + 2 * t) 6 f), none) := by
  have b := r.2.1 t ht
  rw [Z_become hw zn32 (zn215 ht) (by omega) f (TS_01 b.2).1, b.1, show 215 + 2 * t + 1 = 216 + 2 * t by omega]
theorem loadT (hw : wk sw w) {f g : mj_F} {c np ne st t : Nat} (rb : RB f c) (l : LD sw f g c np ne st) (ht : t < 4) : ∃ r' : Int × Mt, mj_call yM_loads w g [.inr (.inl 223), .inl (t : Int)] = some (w, rq g ((c + 1 : Nat) : Int) r'.1 r'.2, none) ∧ TS (c + 1) 802 (f (215 + 2 * t) 2, gm (216 + 2 * t) 6 f) r' := by
  obtain ⟨la, lp, lm, l3⟩ := l
  have h4 := lm 234 (by omega)
  refine ⟨(_, _), R_loads hw g (c := c) la.2.1.2.2.1 la.1.1 ht, TS_e (rb t ht).2 rfl ?_ (fun _ _ _ _ => rfl) (fun i j hi hj => ?_)⟩
  · show (if g 234 (100 + t) = 1 then (1 : Int) else 0) = f 234 (100 + t)
    rw [h4]
    rcases (TS_01 (rb t ht).2).2.1 with h | h
    · have h' : f 234 (100 + t) = 0 := h
      rw [h', if_neg (by decide)]
    · have h' : f 234 (100 + t) = 1 := h
      rw [h', if_pos rfl]
  · show sqn (c + 1) (tsq g 234 t) (gm 252 62 g) i j = tsq f 234 t i j
    rw [sqn_in hi hj, tsq_c h4]
theorem loadN (hw : wk sw w) {f g : mj_F} {c np ne st N k : Nat} (rc : RC sw f c np ne st N) (l : LD sw f g c np ne st) (hk : k < N) : ∃ r' : Int × Mt, mj_call yM_loadsNode w g [.inr (.inl 223), .inl (k : Int)] = some (w, rq g ((c + 1 : Nat) : Int) r'.1 r'.2, none) ∧ r'.1 = 0 ∧ TS (c + 1) 802 (f (48 + 2 * k) 2, gm (49 + 2 * k) 6 f) r' := by
  obtain ⟨la, lp, lm, l3⟩ := l
  have h9 := lm 239 (by omega)
  have hN := rc.1
  have t := (rc.2.2.2.1 k hk).2.2.2.2.2.2.1
  refine ⟨(_, _), R_loadsNode hw g (c := c) la.2.1.2.2.1 la.1.1 (by omega), rfl, TS_e t rfl rfl (fun _ _ _ _ => rfl) (fun i j hi hj => ?_)⟩
  show sqn (c + 1) (tsq g 239 k) (gm 252 62 g) i j = tsq f 239 k i j
  rw [sqn_in hi hj, tsq_c h9]
end GU
