/-! The sets of an edge, in both. -/
/-- a set more -/
def AS (f : mj_F) (P e m i : Nat) (num : Int) : mj_F := mj_u (mj_u (mj_u (mj_u f (P + 11) (4 * e + m) (i : Int)) (P + 12) (4 * e + m) num) (P + 10) e ((m + 1 : Nat) : Int)) (P + 3) i (if f (P + 3) i < num then num else f (P + 3) i)
section ASL
variable {f : mj_F} {P e m i : Nat} {num : Int}
theorem AS_3 (q : Nat) : AS f P e m i num (P + 3) q = if q = i then (if f (P + 3) i < num then num else f (P + 3) i) else f (P + 3) q := by
  unfold AS
  by_cases h : q = i
  · rw [if_pos h, h, u_self]
  · rw [if_neg h, u_o (Or.inr h), u_o (by omega), u_o (by omega), u_o (by omega)]
theorem AS_10 (q : Nat) : AS f P e m i num (P + 10) q = if q = e then ((m + 1 : Nat) : Int) else f (P + 10) q := by
  unfold AS
  by_cases h : q = e
  · rw [if_pos h, h, u_o (by omega), u_self]
  · rw [if_neg h, u_o (by omega), u_o (Or.inr h), u_o (by omega), u_o (by omega)]
theorem AS_11 (q : Nat) : AS f P e m i num (P + 11) q = if q = 4 * e + m then (i : Int) else f (P + 11) q := by
  unfold AS
  by_cases h : q = 4 * e + m
  · rw [if_pos h, h, u_o (by omega), u_o (by omega), u_o (by omega), u_self]
  · rw [if_neg h, u_o (by omega), u_o (by omega), u_o (by omega), u_o (Or.inr h)]
theorem AS_12 (q : Nat) : AS f P e m i num (P + 12) q = if q = 4 * e + m then num else f (P + 12) q := by
  unfold AS
  by_cases h : q = 4 * e + m
  · rw [if_pos h, h, u_o (by omega), u_o (by omega), u_self]
  · rw [if_neg h, u_o (by omega), u_o (by omega), u_o (Or.inr h), u_o (by omega)]
theorem AS_o {a q : Nat} (h : ¬ (a = P + 3 ∨ P + 10 ≤ a ∧ a ≤ P + 12)) : AS f P e m i num a q = f a q := by
  unfold AS
  rw [u_o (by omega), u_o (by omega), u_o (by omega), u_o (by omega)]
end ASL
theorem GU_AS {f : mj_F} {P e m i : Nat} {num : Int} (he : e < 16) (hm : m < 4) (hf : f (P + 10) e = (m : Int)) (hn : 0 ≤ num ∧ num ≤ 50) (g : GU f P) : GU (AS f P e m i num) P := by
  obtain ⟨g1, g2, g3⟩ := g
  have e4 : ∀ q, AS f P e m i num (P + 4) q = f (P + 4) q := fun q => AS_o (by omega)
  have e5 : ∀ q, AS f P e m i num (P + 5) q = f (P + 5) q := fun q => AS_o (by omega)
  have e7 : ∀ q, AS f P e m i num (P + 7) q = f (P + 7) q := fun q => AS_o (by omega)
  refine ⟨fun q hq => by rw [e4]; exact g1 q hq, fun q hq => ?_, fun j hj => ?_⟩
  · rw [AS_10]
    have := g2 q hq
    split <;> omega
  · obtain ⟨a1, a2, a3, a4⟩ := g3 j hj
    have e3 : f (P + 3) j ≤ AS f P e m i num (P + 3) j ∧ (j = i → num ≤ AS f P e m i num (P + 3) j) ∧ (AS f P e m i num (P + 3) j = f (P + 3) j ∨ (j = i ∧ AS f P e m i num (P + 3) j = num)) := by
      rw [AS_3]
      by_cases q : j = i
      · subst q
        rw [if_pos rfl]
        split <;> omega
      · rw [if_neg q]; omega
    refine ⟨by omega, fun l k h1 h2 h3 => ?_, fun e' k hl' hk hh => ?_, ?_⟩
    · rw [e4] at h2
      rw [e5] at h3
      rw [e7]
      have := a2 l k h1 h2 h3
      omega
    · rw [AS_10] at hk
      rw [AS_11] at hh
      rw [AS_12]
      have := g2 e' hl'
      by_cases q : 4 * e' + k = 4 * e + m
      · rw [if_pos q] at hh ⊢
        exact e3.2.1 (by omega)
      · rw [if_neg q] at hh ⊢
        have hk' : (k : Int) < f (P + 10) e' := by
          by_cases z : e' = e
          · subst z; rw [if_pos rfl] at hk; omega
          · rw [if_neg z] at hk; exact hk
        have := a3 e' k hl' hk' hh
        omega
    · rcases e3.2.2 with z | ⟨z1, z2⟩
      · rw [z]
        rcases a4 with b | ⟨l', k, b1, b2, b3, b4⟩ | ⟨e', k, b1, b2, b3, b4⟩
        · exact Or.inl b
        · exact Or.inr (Or.inl ⟨l', k, b1, by rw [e4]; exact b2, by rw [e5]; exact b3, by rw [e7]; exact b4⟩)
        · refine Or.inr (Or.inr ⟨e', k, b1, ?_, ?_, ?_⟩)
          · rw [AS_10]
            by_cases z : e' = e
            · subst z; rw [if_pos rfl]; omega
            · rw [if_neg z]; exact b2
          · have := g2 e' b1
            rw [AS_11, if_neg (fun y => by have e1 : e' = e := by omega
                                           subst e1; omega)]
            exact b3
          · have := g2 e' b1
            rw [AS_12, if_neg (fun y => by have e1 : e' = e := by omega
                                           subst e1; omega)]
            exact b4
      · refine Or.inr (Or.inr ⟨e, m, he, ?_, ?_, ?_⟩)
        · rw [AS_10, if_pos rfl]; omega
        · rw [AS_11, if_pos rfl, z1]
        · rw [AS_12, if_pos rfl, z2]
/-- a set more, in the reference -/
def BM (g : mj_F) (e m : Nat) (i num : Int) : mj_F := mj_u (mj_u (mj_u g 250 (4 * e + m) i) 251 (4 * e + m) num) 249 e ((m + 1 : Nat) : Int)
section BML
variable {f : mj_F} {e m : Nat} {i num : Int}
theorem BM_9 (q : Nat) : BM f e m i num 249 q = if q = e then ((m + 1 : Nat) : Int) else f 249 q := by
  unfold BM
  by_cases h : q = e
  · rw [if_pos h, h, u_self]
  · rw [if_neg h, u_o (Or.inr h), u_o (by omega), u_o (by omega)]
theorem BM_0 (q : Nat) : BM f e m i num 250 q = if q = 4 * e + m then i else f 250 q := by
  unfold BM
  by_cases h : q = 4 * e + m
  · rw [if_pos h, h, u_o (by omega), u_o (by omega), u_self]
  · rw [if_neg h, u_o (by omega), u_o (by omega), u_o (Or.inr h)]
theorem BM_1 (q : Nat) : BM f e m i num 251 q = if q = 4 * e + m then num else f 251 q := by
  unfold BM
  by_cases h : q = 4 * e + m
  · rw [if_pos h, h, u_o (by omega), u_self]
  · rw [if_neg h, u_o (by omega), u_o (Or.inr h), u_o (by omega)]
theorem BM_o {a q : Nat} (h : ¬ (249 ≤ a ∧ a ≤ 251)) : BM f e m i num a q = f a q := by
  unfold BM
  rw [u_o (by omega), u_o (by omega), u_o (by omega)]
end BML
def SC (P e : Nat) (f f' : mj_F) : Prop := ∀ a q, ¬ (a = 3 ∧ 4 ≤ q ∧ q ≤ 9) → ¬ (a = P + 3) → ¬ (a = P + 10 ∧ q = e) → ¬ (P + 11 ≤ a ∧ a ≤ P + 12 ∧ 4 * e ≤ q ∧ q < 4 * e + 4) → f' a q = f a q
def SM (e : Nat) (g g' : mj_F) : Prop := ∀ a q, ¬ (a = 223 ∧ 27 ≤ q ∧ q ≤ 33) → ¬ (a = 249 ∧ q = e) → ¬ (250 ≤ a ∧ a ≤ 251 ∧ 4 * e ≤ q ∧ q < 4 * e + 4) → g' a q = g a q
theorem SC_t {P l : Nat} {f f' f'' : mj_F} (a : SC P l f f') (b : SC P l f' f'') : SC P l f f'' := fun x q h1 h2 h3 h4 => (b x q h1 h2 h3 h4).trans (a x q h1 h2 h3 h4)
theorem SM_t {l : Nat} {f f' f'' : mj_F} (a : SM l f f') (b : SM l f' f'') : SM l f f'' := fun x q h1 h2 h3 => (b x q h1 h2 h3).trans (a x q h1 h2 h3)
theorem SC_F {P l : Nat} {f f' : mj_F} (a : Fc f f') : SC P l f f' := fun x q h1 _ _ _ => by
  by_cases h : x = 3
  · subst h; exact a.2 q (by omega)
  · rw [a.1 x h]
theorem SM_F {l : Nat} {f f' : mj_F} (a : Fm f f') : SM l f f' := fun x q h1 _ _ => by
  by_cases h : x = 223
  · subst h; exact a.2 q (by omega)
  · rw [a.1 x h]
theorem SC_b {P l : Nat} (f : mj_F) (k : Int) : SC P l f (cbad f k) := fun x q h1 _ _ _ => cbad_o f k (by omega)
theorem SM_b {l : Nat} (f : mj_F) (k : Int) : SM l f (mbad f k) := fun x q h1 _ _ => mbad_o f k (by omega)
theorem SC_A {P e m i : Nat} (hm : m < 4) (f : mj_F) (num : Int) : SC P e f (AS f P e m i num) := by
  intro x q h1 h2 h3 h4
  by_cases e4 : x = P + 10
  · subst e4; rw [AS_10, if_neg (by omega)]
  by_cases e5 : x = P + 11
  · subst e5; rw [AS_11, if_neg (by omega)]
  by_cases e6 : x = P + 12
  · subst e6; rw [AS_12, if_neg (by omega)]
  exact AS_o (by omega)
theorem SM_A {f : mj_F} {e m : Nat} {i num : Int} (hm : m < 4) : SM e f (BM f e m i num) := by
  intro x q h1 h2 h3
  by_cases e3 : x = 249
  · subst e3; rw [BM_9, if_neg (by omega)]
  by_cases e4 : x = 250
  · subst e4; rw [BM_0, if_neg (by omega)]
  by_cases e5 : x = 251
  · subst e5; rw [BM_1, if_neg (by omega)]
  exact BM_o (by omega)
def ZJ (f g : mj_F) (P c e m : Nat) : Prop := m ≤ 4 ∧ f (P + 10) e = (m : Int) ∧ g 249 e = (m : Int) ∧ (∀ k : Nat, k < m → (f (P + 11) (4 * e + k) = g 250 (4 * e + k) ∧ f (P + 12) (4 * e + k) = g 251 (4 * e + k)) ∧ (0 ≤ g 250 (4 * e + k) ∧ g 250 (4 * e + k) < (c : Int)) ∧ 0 ≤ g 251 (4 * e + k) ∧ g 251 (4 * e + k) ≤ 50) ∧ ∀ k k' : Nat, k < k' → k' < m → g 250 (4 * e + k) ≠ g 250 (4 * e + k')
theorem ZJ_F {f f' g g' : mj_F} {P c e m : Nat} (hP : 5 ≤ P) (a : Fc f f') (b : Fm g g') (h : ZJ f g P c e m) : ZJ f' g' P c e m := by
  unfold ZJ at h ⊢
  rw [a.1 (P + 10) (by omega), a.1 (P + 11) (by omega), a.1 (P + 12) (by omega), b.1 249 (by omega), b.1 250 (by omega), b.1 251 (by omega)]
  exact h
theorem bita_all : ∀ t : Fin 16, ∀ x : Fin 4, mj_and (mj_shr (t.val : Int) (x.val : Int)) 1 = if t.val.testBit x.val then 1 else 0 := by decide +kernel
theorem bor_all : ∀ t : Fin 16, ∀ x : Fin 4, mj_or (t.val : Int) (mj_shl 1 (x.val : Int)) = ((t.val ||| (1 <<< x.val) : Nat) : Int) ∧ (t.val ||| (1 <<< x.val)) < 16 ∧ ∀ y : Fin 4, (t.val ||| (1 <<< x.val)).testBit y.val = (t.val.testBit y.val || decide (x = y)) := by decide +kernel
/-- which clocks are told to be set -/
def BT (g : mj_F) (e m τ : Nat) : Prop := τ < 16 ∧ ∀ x : Nat, x < 4 → (τ.testBit x = true ↔ ∃ k : Nat, k < m ∧ g 250 (4 * e + k) = (x : Int))
section SB
variable {sw sw' : Bool} {w w' : mj_W}
theorem L_numSet (hw : wk sw w) {P : Nat} (hp : pn P) (f : mj_F) {e m : Nat} (he : e < 16) (hm : m ≤ 4) (hf : f (P + 10) e = (m : Int)) (h0 : ∀ k : Nat, k < m → 0 ≤ f (P + 12) (4 * e + k)) (x : Int) : ∃ r : Int, mj_call yL_numberSet w f [.inr (.inl P), .inl (e : Int), .inl x] = some (w, f, some (.inl r)) ∧ (r = -1 ↔ ¬ ∃ k : Nat, k < m ∧ f (P + 11) (4 * e + k) = x) := by
  have L : ∀ d k : Nat, m - k = d → k ≤ m → (¬ ∃ j : Nat, j < k ∧ f (P + 11) (4 * e + j) = x) → ∃ r : Int, mj_run yL_numberSet w f 2 [.inr (.inl P), .inl (e : Int), .inl x, .inl (k : Int)] [] = some (w, f, some (.inl r)) ∧ (r = -1 ↔ ¬ ∃ k : Nat, k < m ∧ f (P + 11) (4 * e + k) = x) := by
    intro d
    induction d with
    | zero =>
      intro k h1 h2 h3
      have : k = m := by clear h3; omega
      subst this
      refine ⟨-1, ?_, ⟨fun _ => h3, fun _ => rfl⟩⟩
      clear h3
      rw [l_L_numberSet_2 hw _ _ _ _ _ hp, Int.toNat_natCast, hf, mj_gd_pos (by omega), if_pos (by omega)]
    | succ d ih =>
      intro k h1 h2 h3
      have hk : k < m := by clear h3; omega
      have b1 : ¬ (m : Int) ≤ (k : Int) := by clear h3; omega
      have b2 : (0 : Int) ≤ (e : Int) ∧ (e : Int) < ((16 : Nat) : Int) := by clear h3; omega
      have b3 : (0 : Int) ≤ ((4 * e + k : Nat) : Int) ∧ ((4 * e + k : Nat) : Int) < ((64 : Nat) : Int) := by clear h3; omega
      have ix : mj_w ((mj_w ((e : Int) * 4)) + (k : Int)) = ((4 * e + k : Nat) : Int) := by
        clear h3
        rw [w_id (a := (e : Int) * 4) (by omega), w_id (by omega)]
        omega
      have b4 : mj_w ((k : Int) + 1) = ((k + 1 : Nat) : Int) := by clear h3 ix; exact wS (by omega)
      rw [l_L_numberSet_2 hw _ _ _ _ _ hp, Int.toNat_natCast, hf, mj_gd_pos b2, if_neg b1, ix, mj_gd_pos b3, Int.toNat_natCast]
      by_cases q : f (P + 11) (4 * e + k) = x
      · have := h0 k hk
        refine ⟨f (P + 12) (4 * e + k), ?_, ⟨fun z => ?_, fun z => absurd ⟨k, hk, q⟩ z⟩⟩
        · rw [if_neg (fun z => z q), mj_gd_pos b3]
        · rw [z] at this; exact absurd this (by decide)
      · rw [if_pos q, b4]
        refine ih (k + 1) ?_ hk (fun z => ?_)
        · clear h3 ix b4; omega
        · obtain ⟨j, z1, z2⟩ := z
          by_cases y : j = k
          · subst y; exact q z2
          · refine h3 ⟨j, ?_, z2⟩
            clear h3 ix b4; omega
  rw [c_L_numberSet hw _ _ _ _ hp]
  exact L m 0 rfl (Nat.zero_le _) (fun z => by obtain ⟨j, z1, _⟩ := z; omega)
theorem L_addSet (hw : wk sw w) {P : Nat} (hp : pn P) (f : mj_F) {e m i : Nat} (he : e < 16) (hm : m < 4) (hi : i < 4) (hf : f (P + 10) e = (m : Int)) (num : Int) : mj_call yL_addSet w f [.inr (.inl P), .inl (e : Int), .inl (i : Int), .inl num] = some (w, AS f P e m i num, none) := by
  rw [c_L_addSet hw _ _ _ _ _ hp]
  have ee : mj_w ((mj_w ((e : Int) * 4)) + (f (P + 10) (e : Int).toNat)) = ((4 * e + m : Nat) : Int) := by
    rw [Int.toNat_natCast, hf, w_id (a := (e : Int) * 4) (by omega), w_id (by omega)]
    omega
  rw [ee]
  clear ee
  simp only [Int.toNat_natCast]
  rw [mj_gd_pos (by omega), mj_gd_pos (by omega), mj_gd_pos (by omega), mj_gd_pos (by omega), mj_gd_pos (by omega), mj_gd_pos (by omega), mj_gd_pos (by omega)]
  have r4 : mj_u (mj_u f (P + 11) (4 * e + m) (i : Int)) (P + 12) (4 * e + m) num (P + 10) e = (m : Int) := by
    rw [u_o (by omega), u_o (by omega), hf]
  rw [r4, wS (by omega)]
  have r3 : mj_u (mj_u (mj_u f (P + 11) (4 * e + m) (i : Int)) (P + 12) (4 * e + m) num) (P + 10) e ((m + 1 : Nat) : Int) (P + 3) i = f (P + 3) i := by
    rw [u_o (by omega), u_o (by omega), u_o (by omega)]
  rw [r3]
  rfl
theorem sets_88 (hw' : wk sw' w') {g : mj_F} (h : g 223 33 = 1) (x1 x2 x3 : Int) (u4 : mj_V) : mj_run yM_setsHere w' g 88 [.inr (.inl 223), .inl x1, .inl x2, .inl x3, u4] [] = some (w', g, none) := by
  obtain ⟨v, hv⟩ := M_number_b hw' h
  rw [l_M_setsHere_88 hw', hv, mj_bi_some, if_neg (by omega)]
theorem sets_68 (hw' : wk sw' w') {g : mj_F} (h : g 223 33 = 1) (x1 x2 x3 : Int) (u4 : mj_V) : mj_run yM_setsHere w' g 68 [.inr (.inl 223), .inl x1, .inl x2, .inl x3, u4] [.inr (.inl 223)] = some (w', g, none) := by
  rw [l_M_setsHere_68 hw', l_M_setsHere_73 hw', M_must_b hw' h, mj_bu_some, if_pos (by omega), sets_88 hw' h]
theorem ixS {l m : Nat} (hl : l < 16) (hm : m < 4) : mj_w ((mj_w (4 * (l : Int))) + (m : Int)) = ((4 * l + m : Nat) : Int) := by
  rw [w_id (a := 4 * (l : Int)) (by omega), w_id (by omega)]
  omega
end SB
