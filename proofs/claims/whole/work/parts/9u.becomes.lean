/-! becomes(), up to explores(). -/
def cpR (g : mj_F) (r0 r1 m : Nat) : mj_F := fun a q => if a = r1 ∧ q < m then g r0 q else g a q
theorem cpR_s {g : mj_F} {r0 r1 m q : Nat} (h : q < m) : cpR g r0 r1 m r1 q = g r0 q := by unfold cpR; rw [if_pos ⟨rfl, h⟩]
theorem cpR_o {g : mj_F} {r0 r1 m a q : Nat} (h : a ≠ r1) : cpR g r0 r1 m a q = g a q := by unfold cpR; rw [if_neg (fun z => h z.1)]
theorem cpR_0 (g : mj_F) (r0 r1 : Nat) : cpR g r0 r1 0 = g := by
  funext a q
  unfold cpR
  rw [if_neg (fun z => absurd z.2 (by omega))]
theorem cpR_S {g : mj_F} {r0 r1 k : Nat} (hne : r0 ≠ r1) : mj_u (cpR g r0 r1 k) r1 k (cpR g r0 r1 k r0 k) = cpR g r0 r1 (k + 1) := by
  rw [cpR_o hne]
  funext a q
  by_cases h : a = r1 ∧ q = k
  · obtain ⟨rfl, rfl⟩ := h
    rw [u_self, cpR_s (by omega)]
  · rw [u_o (by omega)]
    unfold cpR
    by_cases z : a = r1 ∧ q < k
    · rw [if_pos z, if_pos ⟨z.1, by omega⟩]
    · rw [if_neg z, if_neg (by omega)]
theorem fill_0 (g : mj_F) (a : Nat) (x : Int) : fillM g a 0 x = g := by
  funext b q
  unfold fillM
  rw [if_neg (fun z => absurd z.2 (by omega))]
theorem fill_S {g : mj_F} {a k : Nat} {x : Int} : mj_u (fillM g a k x) a k x = fillM g a (k + 1) x := by
  funext b q
  by_cases h : b = a ∧ q = k
  · obtain ⟨rfl, rfl⟩ := h
    rw [u_self]
    unfold fillM
    rw [if_pos ⟨rfl, by omega⟩]
  · rw [u_o (by omega)]
    unfold fillM
    by_cases z : b = a ∧ q < k
    · rw [if_pos z, if_pos ⟨z.1, by omega⟩]
    · rw [if_neg z, if_neg (by omega)]
theorem fill_in {g : mj_F} {a k q : Nat} {x : Int} (h : q < k) : fillM g a k x a q = x := by unfold fillM; rw [if_pos ⟨rfl, h⟩]
theorem fill_o {g : mj_F} {a k b q : Nat} {x : Int} (h : b ≠ a) : fillM g a k x b q = g b q := by unfold fillM; rw [if_neg (fun z => h z.1)]
/-- the numbers of the new plan -/
def bc0 (g : mj_F) : mj_F := mj_u (mj_u (mj_u (mj_u (mj_u g 223 1 (g 223 41)) 223 2 (g 223 36)) 223 3 (g 223 37)) 223 4 (g 223 38)) 223 5 (g 223 39)
/-- and its rows -/
def bcC (g : mj_F) : mj_F := cpR (cpR (cpR (cpR (cpR (cpR (cpR (cpR (cpR (bc0 g) 243 224 24) 244 225 144) 245 226 144) 246 227 144) 247 228 16) 248 229 16) 249 230 16) 250 231 64) 251 232 64
section BCC
variable {g : mj_F}
theorem bcC_o {a q : Nat} (h : ¬ (224 ≤ a ∧ a ≤ 232)) (h1 : ¬ (a = 223 ∧ 1 ≤ q ∧ q ≤ 5)) : bcC g a q = g a q := by
  unfold bcC bc0
  rw [cpR_o (by omega), cpR_o (by omega), cpR_o (by omega), cpR_o (by omega), cpR_o (by omega), cpR_o (by omega), cpR_o (by omega), cpR_o (by omega), cpR_o (by omega), u_o (by omega), u_o (by omega), u_o (by omega), u_o (by omega), u_o (by omega)]
theorem bcC_1 : bcC g 223 1 = g 223 41 := by
  unfold bcC bc0
  rw [cpR_o (by omega), cpR_o (by omega), cpR_o (by omega), cpR_o (by omega), cpR_o (by omega), cpR_o (by omega), cpR_o (by omega), cpR_o (by omega), cpR_o (by omega), u_o (by omega), u_o (by omega), u_o (by omega), u_o (by omega), u_self]
theorem bcC_2 : bcC g 223 2 = g 223 36 := by
  unfold bcC bc0
  rw [cpR_o (by omega), cpR_o (by omega), cpR_o (by omega), cpR_o (by omega), cpR_o (by omega), cpR_o (by omega), cpR_o (by omega), cpR_o (by omega), cpR_o (by omega), u_o (by omega), u_o (by omega), u_o (by omega), u_self]
theorem bcC_3 : bcC g 223 3 = g 223 37 := by
  unfold bcC bc0
  rw [cpR_o (by omega), cpR_o (by omega), cpR_o (by omega), cpR_o (by omega), cpR_o (by omega), cpR_o (by omega), cpR_o (by omega), cpR_o (by omega), cpR_o (by omega), u_o (by omega), u_o (by omega), u_self]
theorem bcC_4 : bcC g 223 4 = g 223 38 := by
  unfold bcC bc0
  rw [cpR_o (by omega), cpR_o (by omega), cpR_o (by omega), cpR_o (by omega), cpR_o (by omega), cpR_o (by omega), cpR_o (by omega), cpR_o (by omega), cpR_o (by omega), u_o (by omega), u_self]
theorem bcC_5 : bcC g 223 5 = g 223 39 := by
  unfold bcC bc0
  rw [cpR_o (by omega), cpR_o (by omega), cpR_o (by omega), cpR_o (by omega), cpR_o (by omega), cpR_o (by omega), cpR_o (by omega), cpR_o (by omega), cpR_o (by omega), u_self]
theorem bcC_224 {q : Nat} (h : q < 24) : bcC g 224 q = g 243 q := by
  unfold bcC bc0
  rw [cpR_o (by omega), cpR_o (by omega), cpR_o (by omega), cpR_o (by omega), cpR_o (by omega), cpR_o (by omega), cpR_o (by omega), cpR_o (by omega), cpR_s h, u_o (by omega), u_o (by omega), u_o (by omega), u_o (by omega), u_o (by omega)]
theorem bcC_225 {q : Nat} (h : q < 144) : bcC g 225 q = g 244 q := by
  unfold bcC bc0
  rw [cpR_o (by omega), cpR_o (by omega), cpR_o (by omega), cpR_o (by omega), cpR_o (by omega), cpR_o (by omega), cpR_o (by omega), cpR_s h, cpR_o (by omega), u_o (by omega), u_o (by omega), u_o (by omega), u_o (by omega), u_o (by omega)]
theorem bcC_226 {q : Nat} (h : q < 144) : bcC g 226 q = g 245 q := by
  unfold bcC bc0
  rw [cpR_o (by omega), cpR_o (by omega), cpR_o (by omega), cpR_o (by omega), cpR_o (by omega), cpR_o (by omega), cpR_s h, cpR_o (by omega), cpR_o (by omega), u_o (by omega), u_o (by omega), u_o (by omega), u_o (by omega), u_o (by omega)]
theorem bcC_227 {q : Nat} (h : q < 144) : bcC g 227 q = g 246 q := by
  unfold bcC bc0
  rw [cpR_o (by omega), cpR_o (by omega), cpR_o (by omega), cpR_o (by omega), cpR_o (by omega), cpR_s h, cpR_o (by omega), cpR_o (by omega), cpR_o (by omega), u_o (by omega), u_o (by omega), u_o (by omega), u_o (by omega), u_o (by omega)]
theorem bcC_228 {q : Nat} (h : q < 16) : bcC g 228 q = g 247 q := by
  unfold bcC bc0
  rw [cpR_o (by omega), cpR_o (by omega), cpR_o (by omega), cpR_o (by omega), cpR_s h, cpR_o (by omega), cpR_o (by omega), cpR_o (by omega), cpR_o (by omega), u_o (by omega), u_o (by omega), u_o (by omega), u_o (by omega), u_o (by omega)]
theorem bcC_229 {q : Nat} (h : q < 16) : bcC g 229 q = g 248 q := by
  unfold bcC bc0
  rw [cpR_o (by omega), cpR_o (by omega), cpR_o (by omega), cpR_s h, cpR_o (by omega), cpR_o (by omega), cpR_o (by omega), cpR_o (by omega), cpR_o (by omega), u_o (by omega), u_o (by omega), u_o (by omega), u_o (by omega), u_o (by omega)]
theorem bcC_230 {q : Nat} (h : q < 16) : bcC g 230 q = g 249 q := by
  unfold bcC bc0
  rw [cpR_o (by omega), cpR_o (by omega), cpR_s h, cpR_o (by omega), cpR_o (by omega), cpR_o (by omega), cpR_o (by omega), cpR_o (by omega), cpR_o (by omega), u_o (by omega), u_o (by omega), u_o (by omega), u_o (by omega), u_o (by omega)]
theorem bcC_231 {q : Nat} (h : q < 64) : bcC g 231 q = g 250 q := by
  unfold bcC bc0
  rw [cpR_o (by omega), cpR_s h, cpR_o (by omega), cpR_o (by omega), cpR_o (by omega), cpR_o (by omega), cpR_o (by omega), cpR_o (by omega), cpR_o (by omega), u_o (by omega), u_o (by omega), u_o (by omega), u_o (by omega), u_o (by omega)]
theorem bcC_232 {q : Nat} (h : q < 64) : bcC g 232 q = g 251 q := by
  unfold bcC bc0
  rw [cpR_s h, cpR_o (by omega), cpR_o (by omega), cpR_o (by omega), cpR_o (by omega), cpR_o (by omega), cpR_o (by omega), cpR_o (by omega), cpR_o (by omega), u_o (by omega), u_o (by omega), u_o (by omega), u_o (by omega), u_o (by omega)]
end BCC
theorem ixG6 {l k : Nat} (hl : l < 24) (hk : k < 6) : mj_w (mj_w (6 * (l : Int)) + (k : Int)) = ((6 * l + k : Nat) : Int) := by unfold mj_w; omega
theorem ixG8 {e : Nat} (he : e < 16) : mj_w (((8 + e : Nat) : Int) - 8) = (e : Int) := by unfold mj_w; omega
theorem ixG4 {l k : Nat} (hl : l < 16) (hk : k < 4) : mj_w (mj_w (4 * (l : Int)) + (k : Int)) = ((4 * l + k : Nat) : Int) := by unfold mj_w; omega
theorem ixG1 {i : Nat} (h : i < 1000) : mj_w (8 + (i : Int)) = ((8 + i : Nat) : Int) := by unfold mj_w; omega
/-- a greatest number grows -/
def grw (g : mj_F) (i : Nat) (n : Int) : mj_F := if n ≤ g 233 (i + 1) then g else mj_u g 233 (i + 1) n
/-- the greatest numbers: at least those of S, 0 or one of T -/
def GX (g : mj_F) (S T : Nat → Int → Prop) : Prop := g 233 0 = 0 ∧ ∀ i, i < 4 → (0 ≤ g 233 (i + 1) ∧ g 233 (i + 1) ≤ 50) ∧ (∀ n, S i n → n ≤ g 233 (i + 1)) ∧ (g 233 (i + 1) = 0 ∨ T i (g 233 (i + 1)))
theorem GX_S {g : mj_F} {S S' T : Nat → Int → Prop} (h : ∀ i n, S' i n → S i n) (x : GX g S T) : GX g S' T := ⟨x.1, fun i hi => ⟨(x.2 i hi).1, fun n hn => (x.2 i hi).2.1 n (h i n hn), (x.2 i hi).2.2⟩⟩
theorem grw_o {g : mj_F} {i : Nat} {n : Int} {a : Nat} (h : a ≠ 233) : grw g i n a = g a := by
  unfold grw
  split
  · rfl
  · funext q
    exact u_o (Or.inl h)
theorem GX_w {g : mj_F} {S T : Nat → Int → Prop} {i : Nat} {n : Int} (hn : 0 ≤ n ∧ n ≤ 50) (ht : T i n) (x : GX g S T) : GX (grw g i n) (fun j m => S j m ∨ (j = i ∧ m = n)) T := by
  obtain ⟨x0, x1⟩ := x
  unfold grw
  by_cases h : n ≤ g 233 (i + 1)
  · rw [if_pos h]
    refine ⟨x0, fun j hj => ⟨(x1 j hj).1, fun m hm => ?_, (x1 j hj).2.2⟩⟩
    rcases hm with hm | ⟨rfl, rfl⟩
    · exact (x1 j hj).2.1 m hm
    · exact h
  · rw [if_neg h]
    refine ⟨(u_o (by omega)).trans x0, fun j hj => ?_⟩
    by_cases e : j = i
    · subst e
      rw [u_self]
      refine ⟨hn, fun m hm => ?_, Or.inr ht⟩
      rcases hm with hm | ⟨_, rfl⟩
      · have := (x1 j hj).2.1 m hm; omega
      · exact Int.le_refl _
    · rw [u_o (by omega)]
      refine ⟨(x1 j hj).1, fun m hm => ?_, (x1 j hj).2.2⟩
      rcases hm with hm | ⟨z, _⟩
      · exact (x1 j hj).2.1 m hm
      · exact absurd z e
/-- told in a list; in an edge's sets -/
def tw (g : mj_F) (l m : Nat) : Nat → Int → Prop := fun i n => ∃ k : Nat, k < m ∧ g 225 (6 * l + k) = (i : Int) ∧ g 227 (6 * l + k) = n
def tS (g : mj_F) (e m : Nat) : Nat → Int → Prop := fun i n => ∃ k : Nat, k < m ∧ g 231 (4 * e + k) = (i : Int) ∧ g 232 (4 * e + k) = n
section BC
variable {sw : Bool} {w : mj_W}
theorem M_copies (hw : wk sw w) (g : mj_F) {r0 n0 r1 n1 m : Nat} {x : Int} (hx : x = (m : Int)) (h0 : w.1 r0 = (100, n0)) (h1 : w.1 r1 = (100, n1)) (hm0 : m ≤ n0) (hm1 : m ≤ n1) (hm : m < 2000) (hne : r0 ≠ r1) : mj_call yM_copies w g [.inr (.inl r0), .inr (.inl r1), .inl x] = some (w, cpR g r0 r1 m, none) := by
  subst hx
  rw [c_M_copies hw _ _ _ _ _ _ h0 h1]
  have h := loop_st (fun k => mj_run yM_copies w (cpR g r0 r1 k) 2 [.inr (.inl r0), .inr (.inl r1), .inl (m : Int), .inl (k : Int)] []) (Nat.zero_le m) (fun k _ hk => by
    show mj_run yM_copies w (cpR g r0 r1 k) 2 [.inr (.inl r0), .inr (.inl r1), .inl (m : Int), .inl (k : Int)] [] = mj_run yM_copies w (cpR g r0 r1 (k + 1)) 2 [.inr (.inl r0), .inr (.inl r1), .inl (m : Int), .inl ((k + 1 : Nat) : Int)] []
    rw [l_M_copies_2 hw _ _ _ _ _ _ _ h0 h1, if_neg (by omega), mj_gd_pos (by omega), mj_gd_pos (by omega), Int.toNat_natCast, cpR_S hne, wS (by omega)])
  rw [cpR_0] at h
  refine h.trans ?_
  show mj_run yM_copies w (cpR g r0 r1 m) 2 [.inr (.inl r0), .inr (.inl r1), .inl (m : Int), .inl (m : Int)] [] = _
  rw [l_M_copies_2 hw _ _ _ _ _ _ _ h0 h1, if_pos (Int.le_refl _)]
theorem M_grows (hw : wk sw w) (g : mj_F) {i : Nat} (hi : i < 4) {x : Int} (hx : x = (i : Int)) (n : Int) : mj_call yM_grows w g [.inr (.inl 223), .inl x, .inl n] = some (w, grw g i n, none) := by
  subst hx
  rw [c_M_grows hw, wS (by omega), mj_gd_pos (by omega), Int.toNat_natCast, mj_gd_pos (by omega)]
  unfold grw
  split <;> rfl
theorem M_gr2 (hw : wk sw w) {S T : Nat → Int → Prop} {l m : Nat} (hl : l < 24) {g0 : mj_F} (hm : g0 224 l = (m : Int)) (hm6 : m ≤ 6) (hk : ∀ k, k < m → ∃ i : Nat, i < 4 ∧ g0 225 (6 * l + k) = (i : Int) ∧ (0 ≤ g0 227 (6 * l + k) ∧ g0 227 (6 * l + k) ≤ 50) ∧ T i (g0 227 (6 * l + k))) : ∀ (d k : Nat) (g : mj_F), m - k = d → k ≤ m → (∀ a, a ≠ 233 → g a = g0 a) → GX g (fun i n => S i n ∨ tw g0 l k i n) T → ∃ g' : mj_F, mj_run yM_greatens w g 2 [.inr (.inl 223), .inl (l : Int), .inl (k : Int)] [] = mj_run yM_greatens w g' 2 [.inr (.inl 223), .inl (l : Int), .inl (m : Int)] [] ∧ (∀ a, a ≠ 233 → g' a = g0 a) ∧ GX g' (fun i n => S i n ∨ tw g0 l m i n) T := by
  intro d
  induction d with
  | zero =>
    intro k g h1 h2 h3 h4
    have : k = m := by omega
    subst this
    exact ⟨g, rfl, h3, h4⟩
  | succ d ih =>
    intro k g h1 h2 h3 h4
    obtain ⟨i, hi, e1, e2, e3⟩ := hk k (by omega)
    have e4 : g 224 l = (m : Int) := by rw [h3 224 (by decide)]; exact hm
    have e5 : g 225 (6 * l + k) = (i : Int) := by rw [h3 225 (by decide)]; exact e1
    have e6 : g 227 (6 * l + k) = g0 227 (6 * l + k) := by rw [h3 227 (by decide)]
    obtain ⟨g', a1, a2, a3⟩ := ih (k + 1) (grw g i (g0 227 (6 * l + k))) (by omega) (by omega) (fun a ha => by rw [grw_o ha]; exact h3 a ha) (GX_S (fun j n z => by
      rcases z with z | ⟨k', hk', z1, z2⟩
      · exact Or.inl (Or.inl z)
      · by_cases q : k' = k
        · subst q
          refine Or.inr ⟨?_, z2.symm⟩
          rw [e1] at z1
          omega
        · exact Or.inl (Or.inr ⟨k', by omega, z1, z2⟩)) (GX_w e2 e3 h4))
    refine ⟨g', ?_, a2, a3⟩
    rw [← a1, l_M_greatens_2 hw, mj_gd_pos (by omega), Int.toNat_natCast, e4, if_neg (by omega), ixG6 hl (by omega), mj_gd_pos (by omega), mj_gd_pos (by omega), Int.toNat_natCast, e6, M_grows hw g hi e5, mj_bu_some, wS (by omega)]
theorem M_gr53 (hw : wk sw w) {S T : Nat → Int → Prop} {e m : Nat} (he : e < 16) {g0 : mj_F} (hm : g0 230 e = (m : Int)) (hm4 : m ≤ 4) (hk : ∀ k, k < m → ∃ i : Nat, i < 4 ∧ g0 231 (4 * e + k) = (i : Int) ∧ (0 ≤ g0 232 (4 * e + k) ∧ g0 232 (4 * e + k) ≤ 50) ∧ T i (g0 232 (4 * e + k))) : ∀ (d k : Nat) (g : mj_F), m - k = d → k ≤ m → (∀ a, a ≠ 233 → g a = g0 a) → GX g (fun i n => S i n ∨ tS g0 e k i n) T → ∃ g' : mj_F, mj_run yM_greatens w g 53 [.inr (.inl 223), .inl ((8 + e : Nat) : Int), .inl (k : Int)] [] = some (w, g', none) ∧ (∀ a, a ≠ 233 → g' a = g0 a) ∧ GX g' (fun i n => S i n ∨ tS g0 e m i n) T := by
  intro d
  induction d with
  | zero =>
    intro k g h1 h2 h3 h4
    have : k = m := by omega
    subst this
    have e4 : g 230 e = (k : Int) := by rw [h3 230 (by decide)]; exact hm
    refine ⟨g, ?_, h3, h4⟩
    rw [l_M_greatens_53 hw, ixG8 he, mj_gd_pos (by omega), Int.toNat_natCast, e4, if_pos (Int.le_refl _)]
  | succ d ih =>
    intro k g h1 h2 h3 h4
    obtain ⟨i, hi, e1, e2, e3⟩ := hk k (by omega)
    have e4 : g 230 e = (m : Int) := by rw [h3 230 (by decide)]; exact hm
    have e5 : g 231 (4 * e + k) = (i : Int) := by rw [h3 231 (by decide)]; exact e1
    have e6 : g 232 (4 * e + k) = g0 232 (4 * e + k) := by rw [h3 232 (by decide)]
    obtain ⟨g', a1, a2, a3⟩ := ih (k + 1) (grw g i (g0 232 (4 * e + k))) (by omega) (by omega) (fun a ha => by rw [grw_o ha]; exact h3 a ha) (GX_S (fun j n z => by
      rcases z with z | ⟨k', hk', z1, z2⟩
      · exact Or.inl (Or.inl z)
      · by_cases q : k' = k
        · subst q
          refine Or.inr ⟨?_, z2.symm⟩
          rw [e1] at z1
          omega
        · exact Or.inl (Or.inr ⟨k', by omega, z1, z2⟩)) (GX_w e2 e3 h4))
    refine ⟨g', ?_, a2, a3⟩
    rw [← a1, l_M_greatens_53 hw, ixG8 he, mj_gd_pos (by omega), Int.toNat_natCast, e4, if_neg (by omega), ixG4 he (by omega), mj_gd_pos (by omega), mj_gd_pos (by omega), Int.toNat_natCast, e6, M_grows hw g hi e5, mj_bu_some, wS (by omega)]
/-- all that is told in the first o lists -/
def TO (g : mj_F) (np o : Nat) : Nat → Int → Prop := fun i n => (∃ l, l < o ∧ (l < np ∨ 8 ≤ l) ∧ tw g l (g 224 l).toNat i n) ∨ ∃ e, 8 + e < o ∧ tS g e (g 230 e).toNat i n
/-- a plan whose numbers are in order -/
def GO (g : mj_F) (np ne : Nat) : Prop :=
  (∀ l, l < 8 + ne → (l < np ∨ 8 ≤ l) → ∃ m : Nat, g 224 l = (m : Int) ∧ m ≤ 6 ∧ ∀ k, k < m → (∃ i : Nat, i < 4 ∧ g 225 (6 * l + k) = (i : Int)) ∧ 0 ≤ g 227 (6 * l + k) ∧ g 227 (6 * l + k) ≤ 50) ∧
  (∀ e, e < ne → ∃ m : Nat, g 230 e = (m : Int) ∧ m ≤ 4 ∧ ∀ k, k < m → (∃ i : Nat, i < 4 ∧ g 231 (4 * e + k) = (i : Int)) ∧ 0 ≤ g 232 (4 * e + k) ∧ g 232 (4 * e + k) ≤ 50)
theorem M_grO (hw : wk sw w) {g0 : mj_F} {np ne : Nat} (hnp : np ≤ 8) (hne : ne ≤ 16) (e3 : g0 223 3 = (np : Int)) (e4 : g0 223 4 = (ne : Int)) (go : GO g0 np ne) : ∀ (d o : Nat) (g : mj_F), 8 + ne - o = d → o ≤ 8 + ne → (∀ a, a ≠ 233 → g a = g0 a) → GX g (TO g0 np o) (TO g0 np (8 + ne)) → ∃ g' : mj_F, mj_run yM_becomes w g 182 [.inr (.inl 223), .inl (o : Int)] [] = mj_run yM_becomes w g' 220 [.inr (.inl 223), .inl 0] [] ∧ (∀ a, a ≠ 233 → g' a = g0 a) ∧ GX g' (TO g0 np (8 + ne)) (TO g0 np (8 + ne)) := by
  intro d
  induction d with
  | zero =>
    intro o g h1 h2 h3 h4
    have : o = 8 + ne := by omega
    subst this
    refine ⟨g, ?_, h3, h4⟩
    rw [l_M_becomes_182 hw, h3 223 (by decide), e4, ixG1 (by omega), if_pos (Int.le_refl _)]
  | succ d ih =>
    intro o g h1 h2 h3 h4
    rw [l_M_becomes_182 hw, h3 223 (by decide), e4, e3, ixG1 (by omega), if_neg (show ¬ ((8 + ne : Nat) : Int) ≤ (o : Int) by omega)]
    by_cases hs : np ≤ o ∧ o < 8
    · rw [if_neg (show ¬ (o : Int) < (np : Int) by omega), if_pos (show (o : Int) < 8 by omega), wS (by omega)]
      refine ih (o + 1) g (by omega) (by omega) h3 (GX_S (fun i n z => ?_) h4)
      rcases z with ⟨l, z1, z2, z3⟩ | ⟨e, z1, z2⟩
      · by_cases q : l = o
        · exfalso; omega
        · exact Or.inl ⟨l, by omega, z2, z3⟩
      · exact absurd z1 (by omega)
    obtain ⟨m, m1, m2, m3⟩ := go.1 o (by omega) (by omega)
    obtain ⟨g1, a1, a2, a3⟩ := M_gr2 hw (S := TO g0 np o) (T := TO g0 np (8 + ne)) (show o < 24 by omega) m1 m2 (fun k hk => by
      obtain ⟨⟨i, hi, z1⟩, z2⟩ := m3 k hk
      exact ⟨i, hi, z1, z2, Or.inl ⟨o, by omega, by omega, k, by rw [m1]; omega, z1, rfl⟩⟩) m 0 g (by omega) (by omega) h3 (GX_S (fun i n z => by
      rcases z with z | ⟨k, hk, _⟩
      · exact z
      · exact absurd hk (by omega)) h4)
    have e1 : g1 224 o = (m : Int) := by rw [a2 224 (by decide)]; exact m1
    have c1 : mj_call yM_greatens w g [.inr (.inl 223), .inl (o : Int)] = if (8 : Int) ≤ (o : Int) then mj_run yM_greatens w g1 53 [.inr (.inl 223), .inl (o : Int), .inl 0] [] else some (w, g1, none) := by
      rw [c_M_greatens hw]
      refine a1.trans ?_
      rw [l_M_greatens_2 hw, mj_gd_pos (by omega), Int.toNat_natCast, e1, if_pos (Int.le_refl _)]
    have c2 : ∀ X Y : Option mj_O, (if (o : Int) < (np : Int) then X else if (o : Int) < 8 then Y else X) = X := fun X Y => by
      by_cases z : (o : Int) < (np : Int)
      · rw [if_pos z]
      · rw [if_neg z, if_neg (by omega)]
    rw [c2, c1]
    by_cases h8 : o < 8
    · rw [if_neg (by omega), mj_bu_some, wS (by omega)]
      refine ih (o + 1) g1 (by omega) (by omega) a2 (GX_S (fun i n z => ?_) a3)
      rcases z with ⟨l, z1, z2, z3⟩ | ⟨e, z1, z2⟩
      · by_cases q : l = o
        · subst q
          rw [m1, Int.toNat_natCast] at z3
          exact Or.inr z3
        · exact Or.inl (Or.inl ⟨l, by omega, z2, z3⟩)
      · exact absurd z1 (by omega)
    · obtain ⟨e, rfl⟩ : ∃ e, o = 8 + e := ⟨o - 8, by omega⟩
      obtain ⟨m', n1, n2, n3⟩ := go.2 e (by omega)
      obtain ⟨g2, b1, b2, b3⟩ := M_gr53 hw (S := fun i n => TO g0 np (8 + e) i n ∨ tw g0 (8 + e) m i n) (T := TO g0 np (8 + ne)) (show e < 16 by omega) n1 n2 (fun k hk => by
        obtain ⟨⟨i, hi, z1⟩, z2⟩ := n3 k hk
        exact ⟨i, hi, z1, z2, Or.inr ⟨e, by omega, k, by rw [n1]; omega, z1, rfl⟩⟩) m' 0 g1 (by omega) (by omega) a2 (GX_S (fun i n z => by
        rcases z with z | ⟨k, hk, _⟩
        · exact z
        · exact absurd hk (by omega)) a3)
      have b1' : mj_run yM_greatens w g1 53 [.inr (.inl 223), .inl ((8 + e : Nat) : Int), .inl 0] [] = some (w, g2, none) := b1
      rw [if_pos (by omega), b1', mj_bu_some, wS (by omega)]
      refine ih (8 + e + 1) g2 (by omega) (by omega) b2 (GX_S (fun i n z => ?_) b3)
      rcases z with ⟨l, z1, z2, z3⟩ | ⟨e', z1, z2⟩
      · by_cases q : l = 8 + e
        · subst q
          rw [m1, Int.toNat_natCast] at z3
          exact Or.inl (Or.inr z3)
        · exact Or.inl (Or.inl (Or.inl ⟨l, by omega, z2, z3⟩))
      · by_cases q : e' = e
        · subst q
          rw [n1, Int.toNat_natCast] at z2
          exact Or.inr z2
        · exact Or.inl (Or.inl (Or.inr ⟨e', by omega, z2⟩))
/-- all tables are all 0 -/
theorem M_laysAll (hw : wk sw w) {g : mj_F} {c : Nat} (hc : g 223 2 = (c : Int)) (hc4 : c ≤ 4) : ∃ g' : mj_F, mj_call yM_laysAll w g [.inr (.inl 223)] = some (w, g', none) ∧ (∀ a q, ¬ (a = 223 ∧ (q = 52 ∨ q = 53)) → a ≠ 252 → ¬ (a = 234 ∧ q < 104) → g' a q = g a q) ∧ ∀ t, t < 4 → g' 234 (100 + t) = 0 ∧ ∀ i j, i < c + 1 → j < c + 1 → tsq g' 234 t i j = 1 := by
  rw [c_M_laysAll hw]
  have L : ∀ (d t : Nat) (h : mj_F), 4 - t = d → t ≤ 4 → h 223 2 = (c : Int) → (∀ s, s < t → h 234 (100 + s) = 0 ∧ ∀ i j, i < c + 1 → j < c + 1 → tsq h 234 s i j = 1) → ∃ g' : mj_F, mj_run yM_laysAll w h 2 [.inr (.inl 223), .inl (t : Int)] [] = some (w, g', none) ∧ (∀ a q, ¬ (a = 223 ∧ (q = 52 ∨ q = 53)) → a ≠ 252 → ¬ (a = 234 ∧ q < 104) → g' a q = h a q) ∧ ∀ t, t < 4 → g' 234 (100 + t) = 0 ∧ ∀ i j, i < c + 1 → j < c + 1 → tsq g' 234 t i j = 1 := by
    intro d
    induction d with
    | zero =>
      intro t h h1 h2 h3 h4
      have : t = 4 := by omega
      subst this
      refine ⟨h, ?_, fun _ _ _ _ _ => rfl, h4⟩
      rw [l_M_laysAll_2 hw, if_pos (by omega)]
    | succ d ih =>
      intro t h h1 h2 h3 h4
      rw [l_M_laysAll_2 hw, if_neg (by omega), R_nought hw h h3 hc4, mj_bu_some, R_stores hw h (n := c + 1) (t := t) (by omega) (by omega), mj_bu_some, wS (by omega), if_pos rfl]
      have fo : ∀ a q, ¬ (a = 223 ∧ (q = 52 ∨ q = 53)) → a ≠ 252 → ¬ (a = 234 ∧ (25 * t ≤ q ∧ q < 25 * t + 25 ∨ q = 100 + t)) → rq (mj_u (stq h t (c + 1) (c + 1) 0 (sqn (c + 1) (fun _ _ => 1) (gm 252 62 h))) 234 (100 + t) 0) ((c + 1 : Nat) : Int) 0 (sqn (c + 1) (fun _ _ => 1) (gm 252 62 h)) a q = h a q := fun a q y1 y2 y3 => by
        have e : mj_u (stq h t (c + 1) (c + 1) 0 (sqn (c + 1) (fun _ _ => 1) (gm 252 62 h))) 234 (100 + t) 0 a q = h a q := by
          rw [u_o (by omega), stq_o (by omega)]
        by_cases z : a = 223
        · subst z
          rw [rq_f (by omega) (by omega)]; exact e
        · rw [rq_o z y2]; exact e
      obtain ⟨g', b1, b2, b3⟩ := ih (t + 1) _ (by omega) (by omega) ((fo 223 2 (by omega) (by omega) (by omega)).trans h3) (fun s hs => by
        by_cases z : s = t
        · subst z
          refine ⟨?_, fun i j hi hj => ?_⟩
          · rw [rq_o (by decide) (by decide), u_self]
          · unfold tsq
            rw [rq_o (by decide) (by decide), u_o (by omega), stq_in (by omega) hi hj, sqn_in hi hj]
        · refine ⟨?_, fun i j hi hj => ?_⟩
          · rw [fo _ _ (by omega) (by omega) (by omega)]; exact (h4 s (by omega)).1
          · unfold tsq
            rw [fo _ _ (by omega) (by omega) (by omega)]; exact (h4 s (by omega)).2 i j hi hj)
      refine ⟨g', b1, fun a q y1 y2 y3 => ?_, b3⟩
      rw [b2 a q y1 y2 y3]
      exact fo a q y1 y2 (by omega)
  exact L 4 0 g (by omega) (by omega) hc (fun s hs => absurd hs (by omega))
/-- becomes(), up to explores() -/
theorem M_becomes (hw : wk sw w) {g : mj_F} {c np ne : Nat} (hc4 : c ≤ 4) (hnp : np ≤ 8) (hne : ne ≤ 16) (e2 : g 223 36 = (c : Int)) (e3 : g 223 37 = (np : Int)) (e4 : g 223 38 = (ne : Int)) (go : GO (bcC g) np ne) : ∃ g' : mj_F, mj_call yM_becomes w g [.inr (.inl 223)] = mj_bu (mj_call yM_explores w g' [.inr (.inl 223)]) (fun f14 => some (w, f14, none)) ∧ (∀ a q, ¬ (a = 223 ∧ (q = 18 ∨ q = 52 ∨ q = 53)) → a ≠ 252 → a ≠ 233 → ¬ (a = 234 ∧ q < 125) → g' a q = bcC g a q) ∧ GX g' (TO (bcC g) np (8 + ne)) (TO (bcC g) np (8 + ne)) ∧ g' 223 18 = 0 ∧ (∀ q, 104 ≤ q → q < 125 → g' 234 q = 0) ∧ ∀ t, t < 4 → g' 234 (100 + t) = 0 ∧ ∀ i j, i < c + 1 → j < c + 1 → tsq g' 234 t i j = 1 := by
  rw [c_M_becomes hw]
  have r2 : mj_u g 223 1 (g 223 41) 223 36 = g 223 36 := by rw [u_o (by omega)]
  rw [r2]
  have r3 : mj_u (mj_u g 223 1 (g 223 41)) 223 2 (g 223 36) 223 37 = g 223 37 := by rw [u_o (by omega), u_o (by omega)]
  rw [r3]
  have r4 : mj_u (mj_u (mj_u g 223 1 (g 223 41)) 223 2 (g 223 36)) 223 3 (g 223 37) 223 38 = g 223 38 := by rw [u_o (by omega), u_o (by omega), u_o (by omega)]
  rw [r4]
  have r5 : mj_u (mj_u (mj_u (mj_u g 223 1 (g 223 41)) 223 2 (g 223 36)) 223 3 (g 223 37)) 223 4 (g 223 38) 223 39 = g 223 39 := by rw [u_o (by omega), u_o (by omega), u_o (by omega), u_o (by omega)]
  rw [r5]
  have eC : mj_u (mj_u (mj_u (mj_u (mj_u g 223 1 (g 223 41)) 223 2 (g 223 36)) 223 3 (g 223 37)) 223 4 (g 223 38)) 223 5 (g 223 39) = bc0 g := rfl
  rw [eC]
  rw [M_copies hw _ (m := 24) (x := 24) rfl (k_243 hw) (k_224 hw) (Nat.le_refl _) (Nat.le_refl _) (by decide) (by decide), mj_bu_some, M_copies hw _ (m := 144) (x := 144) rfl (k_244 hw) (k_225 hw) (Nat.le_refl _) (Nat.le_refl _) (by decide) (by decide), mj_bu_some, M_copies hw _ (m := 144) (x := 144) rfl (k_245 hw) (k_226 hw) (Nat.le_refl _) (Nat.le_refl _) (by decide) (by decide), mj_bu_some, M_copies hw _ (m := 144) (x := 144) rfl (k_246 hw) (k_227 hw) (Nat.le_refl _) (Nat.le_refl _) (by decide) (by decide), mj_bu_some, M_copies hw _ (m := 16) (x := 16) rfl (k_247 hw) (k_228 hw) (Nat.le_refl _) (Nat.le_refl _) (by decide) (by decide), mj_bu_some, M_copies hw _ (m := 16) (x := 16) rfl (k_248 hw) (k_229 hw) (Nat.le_refl _) (Nat.le_refl _) (by decide) (by decide), mj_bu_some, M_copies hw _ (m := 16) (x := 16) rfl (k_249 hw) (k_230 hw) (Nat.le_refl _) (Nat.le_refl _) (by decide) (by decide), mj_bu_some, M_copies hw _ (m := 64) (x := 64) rfl (k_250 hw) (k_231 hw) (Nat.le_refl _) (Nat.le_refl _) (by decide) (by decide), mj_bu_some, M_copies hw _ (m := 64) (x := 64) rfl (k_251 hw) (k_232 hw) (Nat.le_refl _) (Nat.le_refl _) (by decide) (by decide), mj_bu_some]
  have eB : cpR (cpR (cpR (cpR (cpR (cpR (cpR (cpR (cpR (bc0 g) 243 224 24) 244 225 144) 245 226 144) 246 227 144) 247 228 16) 248 229 16) 249 230 16) 250 231 64) 251 232 64 = bcC g := rfl
  rw [eB]
  have h1 := loop_st (fun k => mj_run yM_becomes w (fillM (bcC g) 233 k 0) 162 [.inr (.inl 223), .inl (k : Int)] []) (Nat.zero_le 5) (fun k _ hk => by
    show mj_run yM_becomes w (fillM (bcC g) 233 k 0) 162 [.inr (.inl 223), .inl (k : Int)] [] = mj_run yM_becomes w (fillM (bcC g) 233 (k + 1) 0) 162 [.inr (.inl 223), .inl ((k + 1 : Nat) : Int)] []
    rw [l_M_becomes_162 hw, if_neg (by omega), mj_gd_pos (by omega), Int.toNat_natCast, fill_S, wS (by omega)])
  rw [fill_0] at h1
  have h1' : mj_run yM_becomes w (bcC g) 162 [.inr (.inl 223), .inl 0] [] = mj_run yM_becomes w (fillM (bcC g) 233 5 0) 182 [.inr (.inl 223), .inl 0] [] := by
    refine h1.trans ?_
    show mj_run yM_becomes w (fillM (bcC g) 233 5 0) 162 [.inr (.inl 223), .inl ((5 : Nat) : Int)] [] = _
    rw [l_M_becomes_162 hw, if_pos (by omega)]
  rw [h1']
  obtain ⟨g1, a1, a2, a3⟩ := M_grO hw hnp hne (by rw [bcC_3]; exact e3) (by rw [bcC_4]; exact e4) go (8 + ne) 0 (fillM (bcC g) 233 5 0) (by omega) (by omega) (fun a ha => by funext q; exact fill_o ha) ⟨fill_in (by omega), fun i hi => by
    rw [fill_in (by omega)]
    refine ⟨by omega, fun n z => ?_, Or.inl rfl⟩
    rcases z with ⟨l, z1, _⟩ | ⟨e, z1, _⟩
    · exact absurd z1 (by omega)
    · exact absurd z1 (by omega)⟩
  have a1' : mj_run yM_becomes w (fillM (bcC g) 233 5 0) 182 [.inr (.inl 223), .inl 0] [] = _ := a1
  rw [a1']
  have h2 := loop_st (fun k => mj_run yM_becomes w (fillM g1 234 k 0) 220 [.inr (.inl 223), .inl (k : Int)] []) (Nat.zero_le 125) (fun k _ hk => by
    show mj_run yM_becomes w (fillM g1 234 k 0) 220 [.inr (.inl 223), .inl (k : Int)] [] = mj_run yM_becomes w (fillM g1 234 (k + 1) 0) 220 [.inr (.inl 223), .inl ((k + 1 : Nat) : Int)] []
    rw [l_M_becomes_220 hw, if_neg (by omega), mj_gd_pos (by omega), Int.toNat_natCast, fill_S, wS (by omega)])
  rw [fill_0] at h2
  have h2' : mj_run yM_becomes w g1 220 [.inr (.inl 223), .inl 0] [] = _ := h2
  rw [h2']
  have ec : fillM g1 234 125 0 223 2 = (c : Int) := by rw [fill_o (by decide), a2 223 (by decide), bcC_2]; exact e2
  obtain ⟨g2, b1, b2, b3⟩ := M_laysAll hw ec hc4
  refine ⟨mj_u g2 223 18 0, ?_, fun a q y1 y2 y3 y4 => ?_, ?_, u_self, fun q y1 y2 => ?_, fun t ht => ?_⟩
  · show mj_run yM_becomes w (fillM g1 234 125 0) 220 [.inr (.inl 223), .inl ((125 : Nat) : Int)] [] = _
    rw [l_M_becomes_220 hw, if_pos (by omega), b1, mj_bu_some]
  · rw [u_o (by omega), b2 a q (by omega) y2 (by omega)]
    unfold fillM
    rw [if_neg (by omega), a2 a y3]
  · obtain ⟨x0, x1⟩ := a3
    have e : ∀ q, mj_u g2 223 18 0 233 q = g1 233 q := fun q => by rw [u_o (by omega), b2 _ _ (by omega) (by omega) (by omega), fill_o (by decide)]
    refine ⟨by rw [e]; exact x0, fun i hi => by rw [e]; exact x1 i hi⟩
  · rw [u_o (by omega), b2 _ _ (by omega) (by omega) (by omega), fill_in y2]
  · obtain ⟨z1, z2⟩ := b3 t ht
    refine ⟨by rw [u_o (by omega)]; exact z1, fun i j hi hj => ?_⟩
    have z := z2 i j hi hj
    unfold tsq at z ⊢
    rw [u_o (by omega)]; exact z
end BC
