/-! leads. -/
def bl8 (b0 b1 b2 b3 b4 b5 b6 b7 : Bool) (i : Nat) : Bool := [b0, b1, b2, b3, b4, b5, b6, b7].getD i false
theorem bit_all : ∀ b0 b1 b2 b3 b4 b5 b6 b7 : Bool, ∀ a : Fin 8, mj_and (mj_shr (sgl (bl8 b0 b1 b2 b3 b4 b5 b6 b7) 8) (a.val : Int)) 1 = if bl8 b0 b1 b2 b3 b4 b5 b6 b7 a.val = true then 1 else 0 := by decide +kernel
theorem sgl_bit {P : Nat → Bool} {a : Nat} (ha : a < 8) : mj_and (mj_shr (sgl P 8) (a : Int)) 1 = if P a = true then 1 else 0 := by
  have h := bit_all (P 0) (P 1) (P 2) (P 3) (P 4) (P 5) (P 6) (P 7) ⟨a, ha⟩
  have e : ∀ x, x < 8 → bl8 (P 0) (P 1) (P 2) (P 3) (P 4) (P 5) (P 6) (P 7) x = P x := by
    intro x hx
    match x, hx with
    | 0, _ => rfl
    | 1, _ => rfl
    | 2, _ => rfl
    | 3, _ => rfl
    | 4, _ => rfl
    | 5, _ => rfl
    | 6, _ => rfl
    | 7, _ => rfl
  rw [sgl_c 8 e, e a ha] at h
  exact h
theorem shl_all : ∀ p : Fin 8, mj_shl 1 (p.val : Int) = sgl (fun x => decide (x = p.val)) 8 := by decide +kernel
theorem shl_s {p : Nat} (h : p < 8) : mj_shl 1 (p : Int) = sgl (fun x => decide (x = p)) 8 := shl_all ⟨p, h⟩
/-- what edges add to a set of places -/
def ldS (fr to : Nat → Nat) (P : Nat → Bool) : Nat → Nat → Bool
  | 0 => P
  | e + 1 => fun x => ldS fr to P e x || (ldS fr to P e (fr e) && decide (x = to e))
def ldR (fr to : Nat → Nat) (ne : Nat) (P : Nat → Bool) : Nat → Nat → Bool
  | 0 => P
  | k + 1 => ldS fr to (ldR fr to ne P k) ne
theorem ldS_up {fr to : Nat → Nat} {P : Nat → Bool} {x : Nat} : ∀ m n, m ≤ n → ldS fr to P m x = true → ldS fr to P n x = true := by
  intro m n h
  induction h with
  | refl => exact id
  | step _ ih =>
    intro hx
    show (ldS fr to P _ x || _) = true
    rw [ih hx, Bool.true_or]
theorem ldS_fix {fr to : Nat → Nat} {P : Nat → Bool} {ne : Nat} (h : ∀ e, e < ne → P (fr e) = true → P (to e) = true) : ∀ e, e ≤ ne → ∀ x, ldS fr to P e x = P x := by
  intro e
  induction e with
  | zero => exact fun _ _ => rfl
  | succ e ih =>
    intro he x
    show (ldS fr to P e x || (ldS fr to P e (fr e) && decide (x = to e))) = P x
    rw [ih (by omega), ih (by omega)]
    by_cases hx : x = to e
    · rw [decide_eq_true hx, Bool.and_true]
      cases hf : P (fr e) with
      | false => rw [Bool.or_false]
      | true => rw [Bool.or_true, hx]; exact (h e (by omega) hf).symm
    · rw [decide_eq_false hx, Bool.and_false, Bool.or_false]
theorem ldS_cl {fr to : Nat → Nat} {P : Nat → Bool} {ne : Nat} (h8 : ∀ e, e < ne → to e < 8) (h : ∀ x, x < 8 → ldS fr to P ne x = true → P x = true) : ∀ e, e < ne → P (fr e) = true → P (to e) = true := by
  intro e he hp
  refine h _ (h8 e he) (ldS_up (e + 1) ne (by omega) ?_)
  show (ldS fr to P e (to e) || (ldS fr to P e (fr e) && decide (to e = to e))) = true
  rw [ldS_up 0 e (by omega) hp, decide_eq_true rfl, Bool.and_true, Bool.or_true]
theorem cnt_m {P Q : Nat → Bool} : ∀ n, (∀ x, x < n → P x = true → Q x = true) → cnt n P ≤ cnt n Q := by
  intro n
  induction n with
  | zero => exact fun _ => Nat.le_refl _
  | succ n ih =>
    intro h
    have i1 := ih (fun x hx => h x (by omega))
    have i2 := h n (by omega)
    unfold cnt
    cases hp : P n with
    | false => cases hq : Q n <;> simp_all <;> omega
    | true => rw [i2 hp]; omega
theorem cnt_s {P Q : Nat → Bool} : ∀ n, (∀ x, x < n → P x = true → Q x = true) → (∃ x, x < n ∧ Q x = true ∧ ¬ P x = true) → cnt n P < cnt n Q := by
  intro n
  induction n with
  | zero => intro _ ⟨x, hx, _⟩; omega
  | succ n ih =>
    intro h ⟨x, hx, hq, hp⟩
    have i2 := h n (by omega)
    by_cases hn : x = n
    · subst hn
      have i1 := cnt_m x (fun y hy => h y (by omega))
      unfold cnt
      rw [hq, Bool.eq_false_iff.mpr hp]
      simp
      omega
    · have i1 := ih (fun y hy => h y (by omega)) ⟨x, by omega, hq, hp⟩
      unfold cnt
      cases hp' : P n with
      | false => cases hq' : Q n <;> simp <;> omega
      | true => rw [i2 hp']; omega
theorem cnt_b {P : Nat → Bool} {m : Nat} (h : ∀ x, P x = true → x < m) : ∀ n, cnt n P ≤ m := by
  intro n
  induction n with
  | zero => exact Nat.zero_le _
  | succ n ih =>
    by_cases hn : n < m
    · have := cnt_le (n + 1) P
      omega
    · have hf : P n = false := Bool.eq_false_iff.mpr (fun q => hn (h n q))
      unfold cnt
      rw [hf]
      simpa using ih
theorem ldS_in {fr to : Nat → Nat} {P : Nat → Bool} {ne m : Nat} (ht : ∀ e, e < ne → to e < m) (h : ∀ x, P x = true → x < m) : ∀ e, e ≤ ne → ∀ x, ldS fr to P e x = true → x < m := by
  intro e
  induction e with
  | zero => exact fun _ => h
  | succ e ih =>
    intro he x hx
    have hx' : (ldS fr to P e x || (ldS fr to P e (fr e) && decide (x = to e))) = true := hx
    rw [Bool.or_eq_true, Bool.and_eq_true, decide_eq_true_eq] at hx'
    rcases hx' with h1 | h1
    · exact ih (by omega) x h1
    · rw [h1.2]; exact ht e (by omega)
theorem ldR_fix {fr to : Nat → Nat} {ne m : Nat} (hm : m ≤ 8) (ht : ∀ e, e < ne → to e < m) {P : Nat → Bool} (hP : ∀ x, P x = true → x < m) (hne : ∃ x, P x = true) : ∀ x, ldR fr to ne P m x = ldR fr to ne P 8 x := by
  have inm : ∀ k, ∀ x, ldR fr to ne P k x = true → x < m := by
    intro k
    induction k with
    | zero => exact hP
    | succ k ih => exact ldS_in ht ih ne (Nat.le_refl ne)
  have key : ∀ k, (∀ e, e < ne → ldR fr to ne P k (fr e) = true → ldR fr to ne P k (to e) = true) ∨ k + 1 ≤ cnt 8 (ldR fr to ne P k) := by
    intro k
    induction k with
    | zero =>
      refine Or.inr ?_
      obtain ⟨x, hx⟩ := hne
      have hx8 : x < 8 := by have := hP x hx; omega
      have := cnt_s (P := fun _ => false) (Q := P) 8 (fun _ _ q => by cases q) ⟨x, hx8, hx, by decide⟩
      show 1 ≤ cnt 8 P
      omega
    | succ k ih =>
      rcases ih with h | h
      · refine Or.inl ?_
        have e := ldS_fix h ne (Nat.le_refl ne)
        intro i hi hq
        show ldS fr to (ldR fr to ne P k) ne (to i) = true
        have hq' : ldS fr to (ldR fr to ne P k) ne (fr i) = true := hq
        rw [e] at hq' ⊢
        exact h i hi hq'
      · by_cases hs : ∀ x, x < 8 → ldS fr to (ldR fr to ne P k) ne x = true → ldR fr to ne P k x = true
        · have h' := ldS_cl (fun e he => by have := ht e he; omega) hs
          refine Or.inl ?_
          have e := ldS_fix h' ne (Nat.le_refl ne)
          intro i hi hq
          show ldS fr to (ldR fr to ne P k) ne (to i) = true
          have hq' : ldS fr to (ldR fr to ne P k) ne (fr i) = true := hq
          rw [e] at hq' ⊢
          exact h' i hi hq'
        · refine Or.inr ?_
          have hex : ∃ x, x < 8 ∧ ldS fr to (ldR fr to ne P k) ne x = true ∧ ¬ ldR fr to ne P k x = true := Classical.byContradiction (fun hh => hs (fun x hx hq => Classical.byContradiction (fun hn => hh ⟨x, hx, hq, hn⟩)))
          have := cnt_s (P := ldR fr to ne P k) (Q := ldS fr to (ldR fr to ne P k) ne) 8 (fun x _ q => ldS_up 0 ne (by omega) q) hex
          show k + 1 + 1 ≤ cnt 8 (ldS fr to (ldR fr to ne P k) ne)
          omega
  have cl : ∀ e, e < ne → ldR fr to ne P m (fr e) = true → ldR fr to ne P m (to e) = true := by
    rcases key m with h | h
    · exact h
    · have := cnt_b (inm m) 8
      omega
  have st : ∀ j x, ldR fr to ne P (m + j) x = ldR fr to ne P m x := by
    intro j
    induction j with
    | zero => exact fun _ => rfl
    | succ j ih =>
      intro x
      have e0 : ldR fr to ne P (m + j) = ldR fr to ne P m := funext ih
      show ldS fr to (ldR fr to ne P (m + j)) ne x = _
      rw [e0]
      exact ldS_fix cl ne (Nat.le_refl ne) x
  intro x
  have := st (8 - m) x
  rw [show m + (8 - m) = 8 by omega] at this
  exact this.symm
theorem ld_step {fr to : Nat → Nat} {P : Nat → Bool} {e : Nat} (h1 : fr e < 8) (h2 : to e < 8) : (if ¬ mj_and (mj_shr (sgl (ldS fr to P e) 8) (fr e : Int)) 1 = 1 then sgl (ldS fr to P e) 8 else mj_or (sgl (ldS fr to P e) 8) (mj_shl 1 (to e : Int))) = sgl (ldS fr to P (e + 1)) 8 := by
  rw [sgl_bit h1]
  by_cases h : ldS fr to P e (fr e) = true
  · rw [if_pos h, if_neg (by decide), sgl_or 8 h2]
    refine sgl_c 8 (fun x _ => ?_)
    show (ldS fr to P e x || decide (x = to e)) = (ldS fr to P e x || (ldS fr to P e (fr e) && decide (x = to e)))
    rw [h, Bool.true_and]
  · rw [if_neg h, if_pos (by decide)]
    refine sgl_c 8 (fun x _ => ?_)
    show ldS fr to P e x = (ldS fr to P e x || (ldS fr to P e (fr e) && decide (x = to e)))
    rw [Bool.eq_false_iff.mpr h, Bool.false_and, Bool.or_false]
section LE
variable {sw : Bool} {w : mj_W}
theorem L_placesBehind (hw : wk sw w) {p : Nat} (hp : pn p) (F : mj_F) {np ne : Nat} {fr to : Nat → Nat} (h2 : F p 2 = (np : Int)) (h3 : F p 3 = (ne : Int)) (hn8 : np ≤ 8) (he16 : ne ≤ 16) (hE : ∀ e, e < ne → F (p + 8) e = (fr e : Int) ∧ F (p + 9) e = (to e : Int) ∧ fr e < np ∧ to e < np) {x : Nat} (hx : x < 8) : mj_call yL_placesBehind w F [.inr (.inl p), .inl (x : Int)] = some (w, F, some (.inl (sgl (ldR fr to ne (fun y => decide (y = x)) np) 8))) := by
  rw [c_L_placesBehind hw _ _ _ hp, shl_s hx]
  obtain ⟨u, h⟩ := loop_ex (fun k (_ : Unit) (u : mj_V) => mj_run yL_placesBehind w F 6 [.inr (.inl p), .inl (x : Int), .inl (sgl (ldR fr to ne (fun y => decide (y = x)) k) 8), .inl (k : Int), u] []) (fun _ a => a) np (fun k _ u hk => by
    rw [l_L_placesBehind_6 hw _ _ _ _ _ _ hp, h2, if_neg (by omega)]
    have h := loop_st (fun e => mj_run yL_placesBehind w F 17 [.inr (.inl p), .inl (x : Int), .inl (sgl (ldS fr to (ldR fr to ne (fun y => decide (y = x)) k) e) 8), .inl (k : Int), .inl (e : Int)] []) (Nat.zero_le ne) (fun e _ he => by
      obtain ⟨a1, a2, a3, a4⟩ := hE e he
      have hs := ld_step (fr := fr) (to := to) (P := ldR fr to ne (fun y => decide (y = x)) k) (e := e) (by omega) (by omega)
      rw [l_L_placesBehind_17 hw _ _ _ _ _ _ hp, h3, if_neg (by omega), mj_gd_pos ⟨by omega, by omega⟩, mj_gd_pos ⟨by omega, by omega⟩, Int.toNat_natCast, a1, a2, wS (by omega), ← hs]
      split <;> rfl)
    refine ⟨.inl (ne : Int), h.trans ?_⟩
    rw [l_L_placesBehind_17 hw _ _ _ _ _ _ hp, h3, if_pos (by omega), wS (by omega)]
    rfl) () (.inr (.inr (.inr 0)))
  refine h.trans ?_
  rw [l_L_placesBehind_6 hw _ _ _ _ _ _ hp, h2, if_pos (by omega)]
theorem R_leads (hw : wk sw w) (F : mj_F) {np ne : Nat} {fr to : Nat → Nat} (h3 : F 223 4 = (ne : Int)) (hn8 : np ≤ 8) (he16 : ne ≤ 16) (hE : ∀ e, e < ne → F 228 e = (fr e : Int) ∧ F 229 e = (to e : Int) ∧ fr e < np ∧ to e < np) {x : Nat} (hx : x < 8) : mj_run yM_leads w F 21 [.inr (.inl 223), .inl (x : Int), .inl (mj_shl 1 (x : Int)), .inl 0, .inr (.inr (.inr 0))] [] = some (w, F, some (.inl (sgl (ldR fr to ne (fun y => decide (y = x)) 8) 8))) := by
  rw [shl_s hx]
  obtain ⟨u, h⟩ := loop_ex (fun k (_ : Unit) (u : mj_V) => mj_run yM_leads w F 21 [.inr (.inl 223), .inl (x : Int), .inl (sgl (ldR fr to ne (fun y => decide (y = x)) k) 8), .inl (k : Int), u] []) (fun _ a => a) 8 (fun k _ u hk => by
    rw [l_M_leads_21 hw, if_neg (by omega)]
    have h := loop_st (fun e => mj_run yM_leads w F 30 [.inr (.inl 223), .inl (x : Int), .inl (sgl (ldS fr to (ldR fr to ne (fun y => decide (y = x)) k) e) 8), .inl (k : Int), .inl (e : Int)] []) (Nat.zero_le ne) (fun e _ he => by
      obtain ⟨a1, a2, a3, a4⟩ := hE e he
      have hs := ld_step (fr := fr) (to := to) (P := ldR fr to ne (fun y => decide (y = x)) k) (e := e) (by omega) (by omega)
      rw [l_M_leads_30 hw, h3, if_neg (by omega), mj_gd_pos ⟨by omega, by omega⟩, mj_gd_pos ⟨by omega, by omega⟩, Int.toNat_natCast, a1, a2, wS (by omega), ← hs]
      split <;> rfl)
    refine ⟨.inl (ne : Int), h.trans ?_⟩
    rw [l_M_leads_30 hw, h3, if_pos (by omega), wS (by omega)]
    rfl) () (.inr (.inr (.inr 0)))
  refine h.trans ?_
  rw [l_M_leads_21 hw, if_pos (by omega)]
theorem ok_leads (hw : wk sw w) {f : mj_F} (r : RR sw f) (x1 : Int) : Ok sw w f yX_leads yM_leads [.inl x1] := by
  obtain ⟨c, np, ne, st, N, L, nx, d, tp, ed, r⟩ := r
  obtain ⟨⟨hc4, hn8, he16, _, _⟩, ⟨_, xc, mc, xp, mp, xe, me, xs, ms⟩, hL, hE, h0, hg⟩ := r.1
  have xn := r.2.2.1.2.1
  have mn := r.2.2.1.2.2.1
  have hN := r.2.2.1.1
  have mc' : mj_u f 223 0 0 223 2 = (c : Int) := mc
  have mp' : mj_u f 223 0 0 223 3 = (np : Int) := mp
  have me' : mj_u f 223 0 0 223 4 = (ne : Int) := me
  have mn' : mj_u f 223 0 0 223 23 = (N : Int) := mn
  by_cases hV : 0 ≤ x1 ∧ x1 < (np : Int)
  · obtain ⟨x, rfl⟩ : ∃ x : Nat, x1 = (x : Int) := ⟨x1.toNat, by omega⟩
    have hfr : ∀ e, e < ne → ∃ a b : Nat, a < np ∧ b < np ∧ f (pl sw + 8) e = (a : Int) ∧ f 228 e = (a : Int) ∧ f (pl sw + 9) e = (b : Int) ∧ f 229 e = (b : Int) := fun e he => (hE e he).2.2
    obtain ⟨fr, hfr'⟩ : ∃ fr : Nat → Nat, fr = fun e => (f 228 e).toNat := ⟨_, rfl⟩
    obtain ⟨to, hto'⟩ : ∃ to : Nat → Nat, to = fun e => (f 229 e).toNat := ⟨_, rfl⟩
    have hC : ∀ e, e < ne → f (pl sw + 8) e = (fr e : Int) ∧ f (pl sw + 9) e = (to e : Int) ∧ fr e < np ∧ to e < np := fun e he => by
      obtain ⟨a, b, a1, a2, a3, a4, a5, a6⟩ := hfr e he
      rw [hfr', hto']
      show f (pl sw + 8) e = ((f 228 e).toNat : Int) ∧ f (pl sw + 9) e = ((f 229 e).toNat : Int) ∧ (f 228 e).toNat < np ∧ (f 229 e).toNat < np
      rw [a3, a4, a5, a6, Int.toNat_natCast, Int.toNat_natCast]
      exact ⟨rfl, rfl, a1, a2⟩
    have hR : ∀ e, e < ne → mj_u f 223 0 0 228 e = (fr e : Int) ∧ mj_u f 223 0 0 229 e = (to e : Int) ∧ fr e < np ∧ to e < np := fun e he => by
      obtain ⟨a, b, a1, a2, a3, a4, a5, a6⟩ := hfr e he
      rw [hfr', hto', mu0a (by decide), mu0a (by decide)]
      show f 228 e = ((f 228 e).toNat : Int) ∧ f 229 e = ((f 229 e).toNat : Int) ∧ (f 228 e).toNat < np ∧ (f 229 e).toNat < np
      rw [a4, a6, Int.toNat_natCast, Int.toNat_natCast]
      exact ⟨rfl, rfl, a1, a2⟩
    have e0 : sgl (ldR fr to ne (fun y => decide (y = x)) np) 8 = sgl (ldR fr to ne (fun y => decide (y = x)) 8) 8 := sgl_c 8 (fun y _ => ldR_fix hn8 (fun e he => (hC e he).2.2.2) (fun y hy => by have : y = x := of_decide_eq_true hy; omega) ⟨x, decide_eq_true rfl⟩ y)
    refine Ok_i ⟨c, np, ne, st, N, L, nx, d, tp, ed, r⟩ (F1 := f) (F3 := mj_u f 223 0 0) (v := sgl (ldR fr to ne (fun y => decide (y = x)) 8) 8) ?_ (Cor_r _ _) ?_ Cor_0
    · simp only [c_X_leads hw, X_isPlace hw f xp, mj_bi_some, i01]
      rw [if_neg (by omega), L_placesBehind hw (pl_pn sw) f xp xe hn8 he16 hC (by omega), mj_bi_some, e0]
    · simp only [c_M_leads hw, M_isPlace hw _ mp' (by omega), mj_bi_some, i01]
      rw [if_pos (by omega), R_leads hw _ me' hn8 he16 hR (by omega)]
  · refine Ok_i ⟨c, np, ne, st, N, L, nx, d, tp, ed, r⟩ (F1 := f) (F3 := mj_u f 223 0 0) (v := -1) ?_ (Cor_r _ _) ?_ Cor_0
    · simp only [c_X_leads hw, X_isPlace hw f xp, mj_bi_some, i01]
      repeat' split
      all_goals first | rfl | (exfalso; omega)
    · simp only [c_M_leads hw, M_isPlace hw _ mp' (by omega), mj_bi_some, i01]
      repeat' split
      all_goals first | rfl | (exfalso; omega)
end LE
