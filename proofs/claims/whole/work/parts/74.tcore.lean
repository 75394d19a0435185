/-! Times of a trace: what each side's closed square is, of the plan alone; a walk beside it. -/
/-- the class's closed times -/
def TC (f : mj_F) (ed : Nat → Nat) (st L : Nat) (q : Int × Mt) : Prop := ∃ K : Bt, (∀ D, Cl (L + 1) D → (Bl (L + 1) D K ↔ PR f ed st D L)) ∧ Bb (L + 1) 102 K ∧ (∀ x, x < L + 1 → ble (K x x) (some 1)) ∧ CS (L + 1) K q
/-- the reference's closed times -/
def TR (f : mj_F) (ed : Nat → Nat) (st L : Nat) (r : Int × Mt) : Prop := (r.1 = 1 ∧ ∀ D, Cl (L + 1) D → ¬ (Zr (L + 1) D ∧ PR f ed st D L)) ∨ (r.1 = 0 ∧ ∃ K : Bt, (∀ D, Cl (L + 1) D → (Bl (L + 1) D K ↔ Zr (L + 1) D ∧ PR f ed st D L)) ∧ Gr (L + 1) K (rT r.2) ∧ NI (L + 1) r.2)
theorem PR_Zr {f : mj_F} {ed : Nat → Nat} {st L : Nat} {D : Bt} (hd : Cl (L + 1) D) (h : PR f ed st D L) : Zr (L + 1) D := fun j hj => PR_zr hd L (by omega) h j (by omega)
theorem TC_TR {f : mj_F} {ed : Nat → Nat} {st L : Nat} {q r : Int × Mt} (h1 : TC f ed st L q) (h2 : TR f ed st L r) : TS (L + 1) (bm 102 (L + 1)) q r := by
  obtain ⟨K, k1, k2, k3, k4⟩ := h1
  rcases h2 with ⟨b1, b2⟩ | ⟨b1, K', b2, b3, b4⟩
  · rcases k4 with ⟨a1, _⟩ | ⟨_, a2, _⟩
    · exact Or.inl ⟨a1, b1⟩
    · have := (k1 _ a2.1).1 a2.2.1
      exact (b2 _ a2.1 ⟨PR_Zr a2.1 this, this⟩).elim
  · have hsm : Sm (L + 1) K K' := fun D hd => by
      rw [k1 D hd, b2 D hd]
      exact ⟨fun h => ⟨PR_Zr hd h, h⟩, fun h => h.2⟩
    rcases k4 with ⟨_, a2⟩ | ⟨a1, a2, a3⟩
    · exact (Gr_v b3 (Vd_sm hsm a2)).elim
    · exact Or.inr ⟨a1, b1, a2.1, PR_Zr a2.1 ((k1 _ a2.1).1 a2.2.1), Gr_bb (by decide) k2 k3 a2, Gr_u (Gr_sm hsm a2) b3, a3, b4⟩
theorem build_TC {f : mj_F} {p L st : Nat} (hL : L ≤ 59) (hp : pn p) (hst : f p 4 = (st : Int)) (os : lOK f p st) {ed : Nat → Nat} (hed : ∀ i, i < L → f 169 i = (ed i : Int)) (he : ∀ i, i < L → eS f p (ed i)) (hch : ∀ i, i < L → f (p + 8) (ed i) = (pla f ed st i : Int)) (hlk : ∀ i, i ≤ L → lOK f p (pla f ed st i)) : TC f ed st L (zcl (L + 1) 0 (tbS f p L).2) := by
  have hb := bm60 (show L + 1 ≤ 60 by omega)
  obtain ⟨_, _, c1, c2⟩ := tb_inv hp hst os hed he hch hlk L (Nat.le_refl L)
  have c3 := tb_K hp hst os hed he hch hlk L (Nat.le_refl L)
  have eS' : itr L (fun i S => tbI f p i S) (tb0 f, tkl (tb0 f) p (f p 4).toNat 0 (dgI (L + 1))) = tbS f p L := rfl
  rw [eS'] at c1 c2 c3
  generalize (tbS f p L).2 = G at c1 c2 c3 ⊢
  have hdg : ∀ i, i < L + 1 → G i i ≤ 1 := by
    intro i hi
    have h : ble (cv (G i i)) (some 1) := c3.2.2 i hi
    by_cases hf : G i i < 268435456
    · rw [cv_s hf] at h; exact h
    · rw [cv_n (by omega)] at h; exact absurd h ble_ns
  exact ⟨cT G, c2, c3.2.1, c3.2.2, zcl_CS (by decide) (by omega) c3.2.1 (Bb_NC (by decide) c3.2.1 (fun i j _ _ => c3.1 i j)) hdg⟩
theorem lays_TR {f : mj_F} {p L st r1 x2 : Nat} (hL : L ≤ 59) (os : lOK f p st) {ed : Nat → Nat} (hed2 : ∀ i, i < L → f r1 (x2 + i) = (ed i : Int)) (he : ∀ i, i < L → eS f p (ed i)) (hlk : ∀ i, i ≤ L → lOK f p (pla f ed st i)) : TR f ed st L (rcl (L + 1) (ltS f r1 x2 L st L).2.1) := by
  have hb := bm60 (show L + 1 ≤ 60 by omega)
  obtain ⟨_, _, d1, _, d2, d3⟩ := lt_inv os hed2 he hlk L (Nat.le_refl L)
  generalize (ltS f r1 x2 L st L).2.1 = q at d1 d2 d3 ⊢
  rcases d1 with d1 | d1
  · have hR := rcl_RS (by decide) (by omega : bm 102 (L + 1) ≤ 1000000) d2.2.1 d2.1 d2.2.2
    have eq : q = (0, q.2) := by rw [← d1]
    have d4 : ∀ D, Cl (L + 1) D → (Bl (L + 1) D (rT q.2) ↔ Zr (L + 1) D ∧ PR f ed st D L) := fun D hd => ⟨fun h => (d3 D hd).1 ⟨d1, h⟩, fun h => ((d3 D hd).2 h).2⟩
    rw [eq]
    rcases hR with ⟨b1, b2⟩ | ⟨b1, b2, b3⟩
    · exact Or.inl ⟨b1, fun D hd h => b2 D hd ((d4 D hd).2 h)⟩
    · exact Or.inr ⟨b1, _, d4, b2, b3⟩
  · refine Or.inl ⟨rcl_v d1, fun D hd h => ?_⟩
    have := (d3 D hd).2 h
    rw [d1] at this
    exact absurd this.1 (by decide)
theorem TR_01 {f : mj_F} {ed : Nat → Nat} {st L : Nat} {r : Int × Mt} (h : TR f ed st L r) : r.1 = 0 ∨ r.1 = 1 := by
  rcases h with ⟨h, _⟩ | ⟨h, _⟩
  · exact Or.inr h
  · exact Or.inl h
/-- a walk is void just where the times are -/
theorem WI_TR {f : mj_F} {ed : Nat → Nat} {st N i : Nat} {q r : Int × Mt} (h1 : WI f ed st N i q) (h2 : TR f ed st i r) : q.1 = r.1 := by
  obtain ⟨K, s, β, ow, hz, hs0, hw, hsb, hK⟩ := h1
  rcases hw with ⟨a1, a2⟩ | ⟨a1, a2, T, a3, a4⟩
  · rcases h2 with ⟨b1, _⟩ | ⟨_, K', b2, b3, _⟩
    · rw [a1, b1]
    · exact (a2 _ b3.1 ((hK _ b3.1).2 ((b2 _ b3.1).1 b3.2.1).2)).elim
  · rcases h2 with ⟨_, b2⟩ | ⟨b1, _⟩
    · have := (hK _ a3.1).1 a3.2.1
      exact (b2 _ a3.1 ⟨PR_Zr a3.1 this, this⟩).elim
    · rw [a1, b1]
/-- a clock that is never set has the whole time -/
theorem WI_last {f : mj_F} {ed : Nat → Nat} {st N i : Nat} {q r : Int × Mt} (h1 : WI f ed st N i q) (h2 : TR f ed st i r) (hr : r.1 = 0) {x : Nat} (hx : x + 1 < N) (hs : (sb f ed i).1 x = 0 ∧ (sb f ed i).2 x = 0) : cv (q.2 0 (x + 1)) = rv (r.2 0 i) := by
  obtain ⟨K, s, β, ow, hz, hs0, hw, hsb, hK⟩ := h1
  rcases h2 with ⟨b1, _⟩ | ⟨_, K', b2, b3, b4⟩
  · rw [hr] at b1; exact absurd b1 (by decide)
  · rcases hw with ⟨a1, a2⟩ | ⟨a1, a2, T, a3, a4⟩
    · exact (a2 _ b3.1 ((hK _ b3.1).2 ((b2 _ b3.1).1 b3.2.1).2)).elim
    · have e := a4 0 (x + 1) (by omega) hx
      have hsx := hsb x
      rw [hs.1, hs.2] at hsx
      have s0 : s (x + 1) = 0 := by omega
      have hsm : Sm (i + 1) K K' := fun D hd => by
        rw [hK D hd, b2 D hd]
        exact ⟨fun h => ⟨PR_Zr hd h, h⟩, fun h => h.2⟩
      have e2 := Gr_u (Gr_sm hsm a3) b3 0 i (by omega) (by omega)
      show cT q.2 0 (x + 1) = rT r.2 0 i
      rw [e, ← e2]
      unfold Wz
      rw [hz, hsx.2, s0, hs0, Int.sub_self, bsh_0]
theorem sbm_in {f : mj_F} {e mo m : Nat} {z : (Nat → Int) × (Nat → Int)} {c : Nat} (h : ∀ k, k < m → (f 231 (4 * e + k)).toNat ≠ c) : (sbm f e mo m z).1 c = z.1 c ∧ (sbm f e mo m z).2 c = z.2 c := by
  induction m with
  | zero => exact ⟨rfl, rfl⟩
  | succ m ih =>
    have i1 := ih (fun k hk => h k (by omega))
    have hn := h m (by omega)
    show (if c = (f 231 (4 * e + m)).toNat then (mo : Int) else (sbm f e mo m z).1 c) = _ ∧ (if c = (f 231 (4 * e + m)).toNat then f 232 (4 * e + m) else (sbm f e mo m z).2 c) = _
    rw [if_neg (fun q => hn q.symm), if_neg (fun q => hn q.symm)]
    exact i1
/-- clocks that no edge of the row sets -/
theorem sb_in {f : mj_F} {ed : Nat → Nat} {c : Nat} : ∀ L, (∀ i k, i < L → k < (f 230 (ed i)).toNat → (f 231 (4 * ed i + k)).toNat ≠ c) → (sb f ed L).1 c = 0 ∧ (sb f ed L).2 c = 0 := by
  intro L
  induction L with
  | zero => exact fun _ => ⟨rfl, rfl⟩
  | succ L ih =>
    intro h
    have i1 := ih (fun i k hi hk => h i k (by omega) hk)
    have i2 := sbm_in (f := f) (e := ed L) (mo := L + 1) (m := (f 230 (ed L)).toNat) (z := sb f ed L) (c := c) (fun k hk => h L k (by omega) hk)
    exact ⟨i2.1.trans i1.1, i2.2.trans i1.2⟩
/-! What of the memory it depends on. -/
def Pf (f g : mj_F) : Prop := g 224 = f 224 ∧ g 225 = f 225 ∧ g 226 = f 226 ∧ g 227 = f 227 ∧ g 229 = f 229 ∧ g 230 = f 230 ∧ g 231 = f 231 ∧ g 232 = f 232
theorem sb_c {f g : mj_F} (h : Pf f g) (ed : Nat → Nat) : ∀ i, sb g ed i = sb f ed i := by
  obtain ⟨h4, h5, h6, h7, h9, h0, h1, h2⟩ := h
  intro i
  induction i with
  | zero => rfl
  | succ i ih =>
    show sbm g (ed i) (i + 1) (g 230 (ed i)).toNat (sb g ed i) = sbm f (ed i) (i + 1) (f 230 (ed i)).toNat (sb f ed i)
    rw [ih, h0]
    unfold sbm
    rw [h1, h2]
theorem pla_c {f g : mj_F} (h : g 229 = f 229) (ed : Nat → Nat) (st : Nat) : ∀ i, pla g ed st i = pla f ed st i := by
  intro i
  cases i with
  | zero => rfl
  | succ i =>
    show (g 229 (ed i)).toNat = (f 229 (ed i)).toNat
    rw [h]
theorem rlL_c {f g : mj_F} (h : Pf f g) (l a : Nat) (z : (Nat → Int) × (Nat → Int)) (D : Bt) : rlL g l a z D = rlL f l a z D := by
  obtain ⟨h4, h5, h6, h7, h9, h0, h1, h2⟩ := h
  unfold rlL rlP
  rw [h4, h5, h6, h7]
theorem PR_c {f g : mj_F} (h : Pf f g) (ed : Nat → Nat) (st : Nat) (D : Bt) : ∀ i, PR g ed st D i = PR f ed st D i := by
  intro i
  induction i with
  | zero =>
    show rlL g st 0 (sb g ed 0) D = rlL f st 0 (sb f ed 0) D
    rw [rlL_c h, sb_c h]
  | succ i ih =>
    show (PR g ed st D i ∧ _ ∧ rlL g (pla g ed st i) (i + 1) (sb g ed i) D ∧ rlL g (8 + ed i) (i + 1) (sb g ed i) D ∧ rlL g (pla g ed st (i + 1)) (i + 1) (sb g ed (i + 1)) D) = (PR f ed st D i ∧ _ ∧ rlL f (pla f ed st i) (i + 1) (sb f ed i) D ∧ rlL f (8 + ed i) (i + 1) (sb f ed i) D ∧ rlL f (pla f ed st (i + 1)) (i + 1) (sb f ed (i + 1)) D)
    rw [ih, rlL_c h, rlL_c h, rlL_c h, sb_c h, sb_c h, pla_c h.2.2.2.2.1, pla_c h.2.2.2.2.1]
theorem TC_c {f g : mj_F} (h : Pf f g) {ed : Nat → Nat} {st L : Nat} {q : Int × Mt} (t : TC f ed st L q) : TC g ed st L q := by
  obtain ⟨K, k1, k2⟩ := t
  exact ⟨K, fun D hd => by rw [PR_c h]; exact k1 D hd, k2⟩
/-- the first L edges alone count -/
theorem sb_ed {f : mj_F} {ed ed' : Nat → Nat} : ∀ L, (∀ i, i < L → ed i = ed' i) → sb f ed L = sb f ed' L := by
  intro L
  induction L with
  | zero => exact fun _ => rfl
  | succ L ih =>
    intro h
    show sbm f (ed L) (L + 1) (f 230 (ed L)).toNat (sb f ed L) = sbm f (ed' L) (L + 1) (f 230 (ed' L)).toNat (sb f ed' L)
    rw [ih (fun i hi => h i (by omega)), h L (by omega)]
theorem pla_ed {f : mj_F} {ed ed' : Nat → Nat} {st : Nat} : ∀ L, (∀ i, i < L → ed i = ed' i) → pla f ed st L = pla f ed' st L := by
  intro L
  cases L with
  | zero => exact fun _ => rfl
  | succ L =>
    intro h
    show (f 229 (ed L)).toNat = (f 229 (ed' L)).toNat
    rw [h L (by omega)]
