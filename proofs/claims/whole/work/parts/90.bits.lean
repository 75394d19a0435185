/-! Sets of bits; reached, tells, deepest. -/
theorem ofI_toI (x : Int32) : Int32.ofInt x.toInt = x := Int32.ofInt_toInt x
theorem or_c (a b : Int) : mj_or a b = mj_or b a := by unfold mj_or; rw [Int32.or_comm]
theorem or_a (a b c : Int) : mj_or (mj_or a b) c = mj_or a (mj_or b c) := by
  unfold mj_or
  rw [ofI_toI, ofI_toI, Int32.or_assoc]
theorem or_i (a b : Int) : mj_or (mj_or a b) b = mj_or a b := by
  unfold mj_or
  rw [ofI_toI, Int32.or_assoc, Int32.or_self]
theorem or_x (a b c : Int) : mj_or (mj_or a b) c = mj_or (mj_or a c) b := by rw [or_a, or_c b c, ← or_a]
theorem sgl_or {P : Nat → Bool} {p : Nat} : ∀ n, p < n → mj_or (sgl P n) (mj_shl 1 (p : Int)) = sgl (fun x => P x || decide (x = p)) n := by
  intro n
  induction n with
  | zero => intro h; omega
  | succ n ih =>
    intro h
    by_cases hp : p = n
    · subst hp
      have e1 : sgl (fun x => P x || decide (x = p)) p = sgl P p := sgl_c p (fun x hx => by
        show (P x || decide (x = p)) = P x
        rw [decide_eq_false (by omega), Bool.or_false])
      rw [sgl_y (P := fun x => P x || decide (x = p)) (k := p) (by show (P p || decide (p = p)) = true; rw [decide_eq_true rfl, Bool.or_true]), e1]
      by_cases hq : P p = true
      · rw [sgl_y hq, or_i]
      · rw [sgl_n hq]
    · have e2 : (P n || decide (n = p)) = P n := by rw [decide_eq_false (by omega), Bool.or_false]
      by_cases hq : P n = true
      · rw [sgl_y hq, or_x, ih (by omega), sgl_y (P := fun x => P x || decide (x = p)) (k := n) (by show (P n || decide (n = p)) = true; rw [e2]; exact hq)]
      · rw [sgl_n hq, ih (by omega), sgl_n (P := fun x => P x || decide (x = p)) (k := n) (by show ¬ (P n || decide (n = p)) = true; rw [e2]; exact hq)]
theorem sgl_0 (n : Nat) : sgl (fun _ => false) n = 0 := by
  induction n with
  | zero => rfl
  | succ n ih => rw [sgl_n (by decide), ih]
section BI
variable {sw : Bool} {w : mj_W}
theorem X_reached (hw : wk sw w) (F : mj_F) {np : Nat} (hp : F (pl sw) 2 = (np : Int)) (h8 : np ≤ 8) : mj_call yX_reached w F [.inr (.inl 2)] = some (w, F, some (.inl (sgl (fun p => decide (0 ≤ F 44 p)) np))) := by
  rw [c_X_reached hw]
  have h := loop_st (fun k => mj_run yX_reached w F 4 [.inr (.inl 2), .inl (sgl (fun p => decide (0 ≤ F 44 p)) k), .inl (k : Int)] []) (Nat.zero_le np) (fun k _ hk => by
    rw [l_X_reached_4 hw, hp, if_neg (by omega), mj_gd_pos ⟨by omega, by omega⟩, Int.toNat_natCast, wS (by omega)]
    by_cases hq : F 44 k < 0
    · rw [if_pos hq, sgl_n (by rw [decide_eq_false (by omega)]; decide)]
    · rw [if_neg hq, sgl_y (decide_eq_true (by omega))])
  refine h.trans ?_
  rw [l_X_reached_4 hw, hp, if_pos (by omega)]
theorem R_reached (hw : wk sw w) (F : mj_F) {N np : Nat} (hN : F 223 23 = (N : Int)) (h60 : N ≤ 60) (hpl : ∀ k, k < N → ∃ a : Nat, a < np ∧ F 236 k = (a : Int)) : mj_run yM_reached w F 9 [.inr (.inl 223), .inl 0, .inl 0] [] = some (w, F, some (.inl (sgl (fun p => any N (fun k => decide (F 236 k = (p : Int)))) np))) := by
  have h := loop_st (fun n => mj_run yM_reached w F 9 [.inr (.inl 223), .inl (sgl (fun p => any n (fun k => decide (F 236 k = (p : Int)))) np), .inl (n : Int)] []) (Nat.zero_le N) (fun n _ hn => by
    obtain ⟨a, ha, e⟩ := hpl n hn
    rw [l_M_reached_9 hw, hN, if_neg (by omega), mj_gd_pos ⟨by omega, by omega⟩, Int.toNat_natCast, wS (by omega), e, sgl_or np ha, sgl_c np (Q := fun p => any (n + 1) (fun k => decide (F 236 k = (p : Int)))) (fun x _ => ?_)]
    show (any n (fun k => decide (F 236 k = (x : Int))) || decide (x = a)) = (any n (fun k => decide (F 236 k = (x : Int))) || decide (F 236 n = (x : Int)))
    rw [e]
    congr 1
    exact decide_eq_decide.mpr (by omega))
  have h0 : sgl (fun p => any 0 (fun k => decide (F 236 k = (p : Int)))) np = 0 := sgl_0 np
  rw [h0] at h
  refine h.trans ?_
  rw [l_M_reached_9 hw, hN, if_pos (by omega)]
theorem ok_reached (hw : wk sw w) {f : mj_F} (r : RR sw f) : Ok sw w f yX_reached yM_reached [] := by
  obtain ⟨c, np, ne, st, N, L, nx, d, tp, ed, r⟩ := r
  obtain ⟨⟨hc4, hn8, he16, _, _⟩, ⟨xl, xc, mc, xp, mp, xe, me, xs, ms⟩, hL, hE, h0, hg⟩ := r.1
  obtain ⟨n1, n2, n3, n4, n5⟩ := r.2.2.1
  refine Ok_i ⟨c, np, ne, st, N, L, nx, d, tp, ed, r⟩ (X_reached hw f xp hn8) (Cor_r _ _) (F3 := mj_u f 223 0 0) ?_ Cor_0
  rw [c_M_reached hw, R_reached hw (mj_u f 223 0 0) (N := N) (np := np) n3 n1 (fun k hk => by
    obtain ⟨a, a1, _, a3⟩ := (n4 k hk).1
    exact ⟨a, a1, a3⟩)]
  rw [sgl_c np (P := fun p => any N (fun k => decide (mj_u f 223 0 0 236 k = (p : Int)))) (Q := fun p => decide (0 ≤ f 44 p)) (fun x hx => ?_)]
  show any N (fun k => decide (f 236 k = (x : Int))) = decide (0 ≤ f 44 x)
  rcases n5 x hx with ⟨a, b⟩ | ⟨k, hk, a, b, _⟩
  · rw [a, decide_eq_false (by decide), Bool.eq_false_iff]
    intro hh
    obtain ⟨i, hi, hd⟩ := any_iff.mp hh
    exact b i hi (of_decide_eq_true hd)
  · rw [a, decide_eq_true (by omega), any_iff]
    exact ⟨k, hk, decide_eq_true b⟩
/-! tells -/
def hrB (f : mj_F) (l m : Nat) (x : Int) : Bool := any m (fun k => decide (f 225 (6 * l + k) = x))
def hsB (f : mj_F) (e m : Nat) (x : Int) : Bool := any m (fun k => decide (f 231 (4 * e + k) = x))
theorem w6k {l k : Nat} (hl : l < 24) (hk : k < 6) : mj_w (mj_w ((l : Int) * 6) + (k : Int)) = ((6 * l + k : Nat) : Int) := by unfold mj_w; omega
theorem w6l {l : Nat} (hl : l < 24) : mj_w (6 * (l : Int)) = ((6 * l : Nat) : Int) := by unfold mj_w; omega
theorem L_hasRuleOf (hw : wk sw w) {p : Nat} (hp : pn p) (f : mj_F) {n l : Nat} (hl : l < 24) (s : sL f p n l) (x : Int) : mj_call yL_hasRuleOf w f [.inr (.inl p), .inl (l : Int), .inl x] = some (w, f, some (.inl (if hrB f l (f 224 l).toNat x = true then 1 else 0))) := by
  obtain ⟨m, m6, m1, m2, m3, m4⟩ := s
  rw [c_L_hasRuleOf hw _ _ _ _ hp, m2, Int.toNat_natCast]
  have gl : (0 : Int) ≤ (l : Int) ∧ (l : Int) < ((24 : Nat) : Int) := ⟨by omega, by omega⟩
  unfold hrB
  rcases loop_any (fun k (_ : Unit) => mj_run yL_hasRuleOf w f 2 [.inr (.inl p), .inl (l : Int), .inl x, .inl (k : Int)] []) (some (w, f, some (.inl 1))) (fun k => decide (f 225 (6 * l + k) = x)) m (fun k _ hk hg => by
      have hg' : f 225 (6 * l + k) = x := of_decide_eq_true hg
      rw [l_L_hasRuleOf_2 hw _ _ _ _ _ hp, mj_gd_pos gl, Int.toNat_natCast, m1, if_neg (by omega), w6k hl (by omega), mj_gd_pos ⟨by omega, by omega⟩, Int.toNat_natCast, (m3 k hk).1, if_neg (fun q => q hg')]) (fun k _ hk hg => ⟨(), by
      have hg' : ¬ f 225 (6 * l + k) = x := of_decide_eq_false hg
      rw [l_L_hasRuleOf_2 hw _ _ _ _ _ hp, mj_gd_pos gl, Int.toNat_natCast, m1, if_neg (by omega), w6k hl (by omega), mj_gd_pos ⟨by omega, by omega⟩, Int.toNat_natCast, (m3 k hk).1, if_pos hg', wS (by omega)]⟩) () with ⟨a, b⟩ | ⟨a, _, b⟩
  · rw [if_pos a]; exact b
  · rw [if_neg (by rw [a]; decide)]
    refine b.trans ?_
    rw [l_L_hasRuleOf_2 hw _ _ _ _ _ hp, mj_gd_pos gl, Int.toNat_natCast, m1, if_pos (by omega)]
theorem M_hasWhen (hw : wk sw w) {p : Nat} (f : mj_F) {n l : Nat} (hl : l < 24) (s : sL f p n l) (x : Int) : mj_call yM_hasWhen w f [.inr (.inl 223), .inl (l : Int), .inl x] = some (w, f, some (.inl (if hrB f l (f 224 l).toNat x = true then 1 else 0))) := by
  obtain ⟨m, m6, m1, m2, m3, m4⟩ := s
  have gl : (0 : Int) ≤ (l : Int) ∧ (l : Int) < ((24 : Nat) : Int) := ⟨by omega, by omega⟩
  rw [c_M_hasWhen hw, m2, Int.toNat_natCast, w6l hl]
  unfold hrB
  rcases loop_any (fun k (_ : Unit) => mj_run yM_hasWhen w f 5 [.inr (.inl 223), .inl (l : Int), .inl x, .inl ((6 * l + k : Nat) : Int)] []) (some (w, f, some (.inl 1))) (fun k => decide (f 225 (6 * l + k) = x)) m (fun k _ hk hg => by
      have hg' : f 225 (6 * l + k) = x := of_decide_eq_true hg
      rw [l_M_hasWhen_5 hw, mj_gd_pos gl, Int.toNat_natCast, m2, ix6 hl (by omega), if_neg (ixlt hk), mj_gd_pos (ix6g hl (by omega)), Int.toNat_natCast, if_neg (fun q => q hg')]) (fun k _ hk hg => ⟨(), by
      have hg' : ¬ f 225 (6 * l + k) = x := of_decide_eq_false hg
      rw [l_M_hasWhen_5 hw, mj_gd_pos gl, Int.toNat_natCast, m2, ix6 hl (by omega), if_neg (ixlt hk), mj_gd_pos (ix6g hl (by omega)), Int.toNat_natCast, if_pos hg', wS (by omega)]
      rfl⟩) () with ⟨a, b⟩ | ⟨a, _, b⟩
  · rw [if_pos a]; exact b
  · rw [if_neg (by rw [a]; decide)]
    refine b.trans ?_
    rw [l_M_hasWhen_5 hw, mj_gd_pos gl, Int.toNat_natCast, m2, ix6 hl (by omega), if_pos lle]
/-- the number that an edge sets a clock to, -1: none -/
def nsN (f : mj_F) (e : Nat) (x : Int) : Nat → Int
  | 0 => -1
  | m + 1 => if nsN f e x m = -1 then (if f 231 (4 * e + m) = x then f 232 (4 * e + m) else -1) else nsN f e x m
theorem nsN_no {f : mj_F} {e : Nat} {x : Int} : ∀ m, (∀ k, k < m → ¬ f 231 (4 * e + k) = x) → nsN f e x m = -1 := by
  intro m
  induction m with
  | zero => exact fun _ => rfl
  | succ m ih =>
    intro h
    show (if nsN f e x m = -1 then (if f 231 (4 * e + m) = x then f 232 (4 * e + m) else -1) else nsN f e x m) = -1
    rw [if_pos (ih (fun k hk => h k (by omega))), if_neg (h m (by omega))]
theorem nsN_at {f : mj_F} {e : Nat} {x : Int} {k : Nat} (h1 : f 231 (4 * e + k) = x) (h2 : 0 ≤ f 232 (4 * e + k)) (h3 : ∀ j, j < k → ¬ f 231 (4 * e + j) = x) : ∀ m, k < m → nsN f e x m = f 232 (4 * e + k) := by
  intro m
  induction m with
  | zero => intro h; omega
  | succ m ih =>
    intro h
    show (if nsN f e x m = -1 then (if f 231 (4 * e + m) = x then f 232 (4 * e + m) else -1) else nsN f e x m) = _
    by_cases hk : k = m
    · subst hk
      rw [if_pos (nsN_no k h3), if_pos h1]
    · rw [ih (by omega), if_neg (by omega)]
theorem L_numberSet (hw : wk sw w) {p : Nat} (hp : pn p) (f : mj_F) {n e : Nat} (he : e < 16) (s : sS f p n e) (x : Int) : mj_call yL_numberSet w f [.inr (.inl p), .inl (e : Int), .inl x] = some (w, f, some (.inl (nsN f e x (f 230 e).toNat))) ∧ (nsN f e x (f 230 e).toNat = -1 ↔ hsB f e (f 230 e).toNat x = false) ∧ (nsN f e x (f 230 e).toNat = -1 ∨ 0 ≤ nsN f e x (f 230 e).toNat ∧ nsN f e x (f 230 e).toNat ≤ 50) := by
  obtain ⟨m, m4, m1, m2, m3, m5⟩ := s
  have gl : (0 : Int) ≤ (e : Int) ∧ (e : Int) < ((16 : Nat) : Int) := ⟨by omega, by omega⟩
  rw [c_L_numberSet hw _ _ _ _ hp, m2, Int.toNat_natCast]
  have hlo : ∀ k : Nat, k ≤ m → (∀ j, j < k → ¬ f 231 (4 * e + j) = x) → mj_run yL_numberSet w f 2 [.inr (.inl p), .inl (e : Int), .inl x, .inl 0] [] = mj_run yL_numberSet w f 2 [.inr (.inl p), .inl (e : Int), .inl x, .inl (k : Int)] [] := by
    intro k hk h
    exact loop_st (fun k => mj_run yL_numberSet w f 2 [.inr (.inl p), .inl (e : Int), .inl x, .inl (k : Int)] []) (Nat.zero_le k) (fun i _ hi => by
      rw [l_L_numberSet_2 hw _ _ _ _ _ hp, mj_gd_pos gl, Int.toNat_natCast, m1, if_neg (by omega), ix4 he (by omega), mj_gd_pos (ix4g he (by omega)), Int.toNat_natCast, (m3 i (by omega)).1, if_pos (h i hi), wS (by omega)])
  by_cases hex : ∃ k, k < m ∧ f 231 (4 * e + k) = x
  · obtain ⟨k, ⟨hk, hkx⟩, hmin⟩ : ∃ k, (k < m ∧ f 231 (4 * e + k) = x) ∧ ∀ j, j < k → ¬ (j < m ∧ f 231 (4 * e + j) = x) := by
      obtain ⟨k0, h0⟩ := hex
      induction k0 using Nat.strongRecOn with
      | ind k0 ih =>
        by_cases hh : ∃ j, j < k0 ∧ (j < m ∧ f 231 (4 * e + j) = x)
        · obtain ⟨j, hj, hj2⟩ := hh
          exact ih j hj hj2
        · exact ⟨k0, h0, fun j hj q => hh ⟨j, hj, q⟩⟩
    have hmin' : ∀ j, j < k → ¬ f 231 (4 * e + j) = x := fun j hj q => hmin j hj ⟨by omega, q⟩
    have hb := m5 k hk
    rw [nsN_at hkx hb.2.2.1 hmin' m hk]
    refine ⟨?_, ⟨fun q => by omega, fun q => ?_⟩, Or.inr ⟨hb.2.2.1, hb.2.2.2⟩⟩
    · rw [hlo k (by omega) hmin', l_L_numberSet_2 hw _ _ _ _ _ hp, mj_gd_pos gl, Int.toNat_natCast, m1, if_neg (by omega), ix4 he (by omega), mj_gd_pos (ix4g he (by omega)), Int.toNat_natCast, (m3 k hk).1, if_neg (fun q => q hkx), mj_gd_pos (ix4g he (by omega)), (m3 k hk).2]
    · have : hsB f e m x = true := any_iff.mpr ⟨k, hk, decide_eq_true hkx⟩
      rw [q] at this
      cases this
  · have hno : ∀ j, j < m → ¬ f 231 (4 * e + j) = x := fun j hj q => hex ⟨j, hj, q⟩
    rw [nsN_no m hno]
    refine ⟨?_, ⟨fun _ => ?_, fun _ => rfl⟩, Or.inl rfl⟩
    · rw [hlo m (Nat.le_refl m) hno, l_L_numberSet_2 hw _ _ _ _ _ hp, mj_gd_pos gl, Int.toNat_natCast, m1, if_pos (by omega)]
    · rw [Bool.eq_false_iff]
      intro hh
      obtain ⟨i, hi, hd⟩ := any_iff.mp hh
      exact hno i hi (of_decide_eq_true hd)
theorem M_hasSet (hw : wk sw w) {p : Nat} (f : mj_F) {n e : Nat} (he : e < 16) (s : sS f p n e) (x : Int) : mj_call yM_hasSet w f [.inr (.inl 223), .inl (e : Int), .inl x] = some (w, f, some (.inl (if hsB f e (f 230 e).toNat x = true then 1 else 0))) := by
  obtain ⟨m, m4, m1, m2, m3, m5⟩ := s
  have gl : (0 : Int) ≤ (e : Int) ∧ (e : Int) < ((16 : Nat) : Int) := ⟨by omega, by omega⟩
  rw [c_M_hasSet hw, m2, Int.toNat_natCast, w4e he]
  unfold hsB
  have nle4 : ∀ k, k < m → ¬ ((4 * e + m : Nat) : Int) ≤ ((4 * e + k : Nat) : Int) := fun k hk => by omega
  rcases loop_any (fun k (_ : Unit) => mj_run yM_hasSet w f 4 [.inr (.inl 223), .inl (e : Int), .inl x, .inl ((4 * e + k : Nat) : Int)] []) (some (w, f, some (.inl 1))) (fun k => decide (f 231 (4 * e + k) = x)) m (fun k _ hk hg => by
      have hg' : f 231 (4 * e + k) = x := of_decide_eq_true hg
      rw [l_M_hasSet_4 hw, mj_gd_pos gl, Int.toNat_natCast, m2, w4m he m4, if_neg (nle4 k hk), mj_gd_pos (ix4g he (by omega)), Int.toNat_natCast, if_neg (fun q => q hg')]) (fun k _ hk hg => ⟨(), by
      have hg' : ¬ f 231 (4 * e + k) = x := of_decide_eq_false hg
      rw [l_M_hasSet_4 hw, mj_gd_pos gl, Int.toNat_natCast, m2, w4m he m4, if_neg (nle4 k hk), mj_gd_pos (ix4g he (by omega)), Int.toNat_natCast, if_pos hg', wS (by omega)]
      rfl⟩) () with ⟨a, b⟩ | ⟨a, _, b⟩
  · rw [if_pos a]; exact b
  · rw [if_neg (by rw [a]; decide)]
    refine b.trans ?_
    rw [l_M_hasSet_4 hw, mj_gd_pos gl, Int.toNat_natCast, m2, w4m he m4, if_pos lle]
end BI
