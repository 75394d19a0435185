/-! Times of a trace: the same square in the class and in the reference. -/
def sqC (n : Nat) (G : Mt) : Prop := cLe G ∧ Bb n 102 (cT G) ∧ ∀ i, i < n → ble (cT G i i) (some 1)
theorem lwI_K {n i j : Nat} {b : Int} {G : Mt} (hb : sml 102 (cv b)) (h : sqC n G) : sqC n (lwI G i j b) := by
  refine ⟨lwI_le h.1, ?_, ?_⟩
  · rw [lwI_cT h.1]; exact Bb_low h.2.1 hb
  · rw [lwI_cT h.1]; exact lowB_diag h.2.2
theorem tkm_K {F : mj_F} {p l a m n : Nat} (hs : sLm F p l m) (hr : rOK F l m) (ho : sOK n (F 173) (F 174)) {G : Mt} (h : sqC n G) : sqC n (tkm F p l a m G) := by
  induction m with
  | zero => exact h
  | succ m ih =>
    have i1 := ih (fun k hk => hs k (by omega)) (fun k hk => hr k (by omega))
    obtain ⟨e5, e6, e7⟩ := hs m (by omega)
    have r := hr m (by omega)
    have o := ho (F 225 (6 * l + m)).toNat (by omega)
    have hx : -1000 ≤ F 227 (6 * l + m) - F 174 (F 225 (6 * l + m)).toNat ∧ F 227 (6 * l + m) - F 174 (F 225 (6 * l + m)).toNat ≤ 1000 := by omega
    show sqC n (tks F p (6 * l + m) a (tkm F p l a m G))
    unfold tks
    rw [e5, e6, e7, w_id (by omega)]
    refine lwI_K ?_ (lwI_K ?_ i1)
    · rw [cv_lo hx]; exact sml_rl hx (by omega)
    · rw [cv_up hx]; exact sml_ru hx (by omega)
theorem tkl_K {F f : mj_F} {p l a n : Nat} (hp : pn p) (hF : ∀ x q, x ≠ 173 → x ≠ 174 → F x q = f x q) (hl : lOK f p l) {z : (Nat → Int) × (Nat → Int)} (hz : ∀ c, c < 4 → F 173 c = z.1 c ∧ F 174 c = z.2 c) (ho : sOK n z.1 z.2) {G : Mt} (h : sqC n G) : sqC n (tkl F p l a G) := by
  obtain ⟨m, m6, h4, h224, hs, hr⟩ := hl
  have hq : ∀ k q, k ≤ 12 → F (p + k) q = f (p + k) q := by
    intro k q hk
    refine hF _ q ?_ ?_ <;> rcases hp with rfl | rfl <;> omega
  have g : ∀ x, 224 ≤ x → ∀ q, F x q = f x q := fun x hx q => hF x q (by omega) (by omega)
  unfold tkl
  rw [hq 4 l (by omega), h4, Int.toNat_natCast]
  refine tkm_K (fun k hk => ?_) (rOK_c (g 225 (by omega)) (g 226 (by omega)) (g 227 (by omega)) hr) (fun c hc => ?_) h
  · rw [hq 5 _ (by omega), hq 6 _ (by omega), hq 7 _ (by omega), g 225 (by omega), g 226 (by omega), g 227 (by omega)]
    exact hs k hk
  · rw [(hz c hc).1, (hz c hc).2]
    exact ho c hc
theorem tb_K {f : mj_F} {p L st : Nat} (hp : pn p) (hst : f p 4 = (st : Int)) (os : lOK f p st) {ed : Nat → Nat} (hed : ∀ i, i < L → f 169 i = (ed i : Int)) (he : ∀ i, i < L → eS f p (ed i)) (hch : ∀ i, i < L → f (p + 8) (ed i) = (pla f ed st i : Int)) (hlk : ∀ i, i ≤ L → lOK f p (pla f ed st i)) : ∀ i, i ≤ L → sqC (L + 1) (itr i (fun i S => tbI f p i S) (tb0 f, tkl (tb0 f) p (f p 4).toNat 0 (dgI (L + 1)))).2 := by
  have hsb := sb_ok (n := L + 1) (by omega) (by omega) he
  have hinv := tb_inv hp hst os hed he hch hlk
  intro i
  induction i with
  | zero =>
    intro _
    have hdg : sqC (L + 1) (dgI (L + 1)) := by
      refine ⟨fun i j => ?_, fun i j x hi hj hx => ?_, fun i hi => ?_⟩
      · unfold dgI
        split <;> decide
      · have hx := cv_i hx
        unfold dgI at hx
        split at hx <;> omega
      · show ble (cv (dgI (L + 1) i i)) (some 1)
        unfold dgI
        rw [if_pos ⟨rfl, hi⟩]
        exact Int.le_refl 1
    show sqC (L + 1) (tkl (tb0 f) p (f p 4).toNat 0 (dgI (L + 1)))
    rw [hst, Int.toNat_natCast]
    exact tkl_K hp (fun x q h1 h2 => tb0_o h1 h2) os (fun c hc => tb0_z hc : ∀ c, c < 4 → tb0 f 173 c = (sb f ed 0).1 c ∧ tb0 f 174 c = (sb f ed 0).2 c) (hsb 0 (by omega)) hdg
  | succ i ih =>
    intro hi
    have h0 := ih (by omega)
    obtain ⟨h1, h2, _, _⟩ := hinv i (by omega)
    obtain ⟨g1, g2, _, _⟩ := hinv (i + 1) hi
    obtain ⟨a1, ⟨l2, a2, a3, a4, a5⟩, a6, m, m4, b1, b2, b3⟩ := he i (by omega)
    have ex : itr (i + 1) (fun i S => tbI f p i S) (tb0 f, tkl (tb0 f) p (f p 4).toNat 0 (dgI (L + 1))) = tbI f p i (itr i (fun i S => tbI f p i S) (tb0 f, tkl (tb0 f) p (f p 4).toNat 0 (dgI (L + 1)))) := rfl
    rw [ex] at g1 g2 ⊢
    generalize itr i (fun i S => tbI f p i S) (tb0 f, tkl (tb0 f) p (f p 4).toNat 0 (dgI (L + 1))) = S at h0 h1 h2 g1 g2 ⊢
    have hq : ∀ k q, k ≤ 12 → S.1 (p + k) q = f (p + k) q := by
      intro k q hk
      refine h1 _ q ?_ ?_ <;> rcases hp with rfl | rfl <;> omega
    have eI : tbI f p i S = (stM S.1 p (ed i) (i + 1) m, tkl (stM S.1 p (ed i) (i + 1) m) p l2 (i + 1) (tkl S.1 p (8 + ed i) (i + 1) (tkl S.1 p (pla f ed st i) (i + 1) (lwI S.2 i (i + 1) 1)))) := by
      unfold tbI teG teF
      rw [hed i (by omega), Int.toNat_natCast, hch i (by omega), a3, Int.toNat_natCast, Int.toNat_natCast, hq 10 _ (by omega), b1, Int.toNat_natCast]
      rfl
    rw [eI] at g1 g2 ⊢
    exact tkl_K hp g1 a5 g2 (hsb (i + 1) (by omega)) (tkl_K hp h1 a6 h2 (hsb i (by omega)) (tkl_K hp h1 (hlk i (by omega)) h2 (hsb i (by omega)) (lwI_K (fun x hx => by have := cv_i hx; omega) h0)))
theorem PR_zr {f : mj_F} {ed : Nat → Nat} {st n : Nat} {D : Bt} (hd : Cl n D) : ∀ L, L < n → PR f ed st D L → ∀ j, j ≤ L → ble (D 0 j) (some 1) := by
  intro L
  induction L with
  | zero =>
    intro hn _ j hj
    rw [show j = 0 by omega, hd.1 0 hn]
    exact ble_r _
  | succ L ih =>
    intro hn h j hj
    by_cases z : j = L + 1
    · rw [z]
      refine ble_t (hd.2 0 (L + 1) L (by omega) hn (by omega)) ?_
      have := bad_m (ih (by omega) h.1 L (Nat.le_refl L)) h.2.1
      rw [bad_1] at this
      exact this
    · exact ih (by omega) h.1 j (by omega)
/-- can, gaps of the class; flag, square of the reference: the same times -/
theorem times_TS {f : mj_F} {p L st r1 x2 : Nat} (hL : L ≤ 59) (hp : pn p) (hst : f p 4 = (st : Int)) (os : lOK f p st) {ed : Nat → Nat} (hed : ∀ i, i < L → f 169 i = (ed i : Int)) (hed2 : ∀ i, i < L → f r1 (x2 + i) = (ed i : Int)) (he : ∀ i, i < L → eS f p (ed i)) (hch : ∀ i, i < L → f (p + 8) (ed i) = (pla f ed st i : Int)) (hlk : ∀ i, i ≤ L → lOK f p (pla f ed st i)) : TS (L + 1) (bm 102 (L + 1)) (zcl (L + 1) 0 (tbS f p L).2) (rcl (L + 1) (ltS f r1 x2 L st L).2.1) := by
  have hb := bm60 (show L + 1 ≤ 60 by omega)
  obtain ⟨_, _, c1, c2⟩ := tb_inv hp hst os hed he hch hlk L (Nat.le_refl L)
  have c3 := tb_K hp hst os hed he hch hlk L (Nat.le_refl L)
  obtain ⟨_, _, d1, _, d2, d3⟩ := lt_inv os hed2 he hlk L (Nat.le_refl L)
  have eS' : itr L (fun i S => tbI f p i S) (tb0 f, tkl (tb0 f) p (f p 4).toNat 0 (dgI (L + 1))) = tbS f p L := rfl
  rw [eS'] at c1 c2 c3
  generalize (tbS f p L).2 = G at c1 c2 c3 ⊢
  generalize (ltS f r1 x2 L st L).2.1 = q at d1 d2 d3 ⊢
  have hz : ∀ D, Cl (L + 1) D → PR f ed st D L → Zr (L + 1) D := fun D hd h j hj => PR_zr hd L (by omega) h j (by omega)
  have hdg : ∀ i, i < L + 1 → G i i ≤ 1 := by
    intro i hi
    have h : ble (cv (G i i)) (some 1) := c3.2.2 i hi
    by_cases hf : G i i < 268435456
    · rw [cv_s hf] at h; exact h
    · rw [cv_n (by omega)] at h; exact absurd h ble_ns
  have hC := zcl_CS (by decide) (by omega) c3.2.1 (Bb_NC (by decide) c3.2.1 (fun i j _ _ => c3.1 i j)) hdg
  rcases d1 with d1 | d1
  · have hsm : Sm (L + 1) (cT G) (rT q.2) := by
      intro D hd
      rw [c2 D hd]
      have := d3 D hd
      exact ⟨fun h => (this.2 ⟨hz D hd h, h⟩).2, fun h => (this.1 ⟨d1, h⟩).2⟩
    have hR := rcl_RS (by decide) (by omega : bm 102 (L + 1) ≤ 1000000) d2.2.1 d2.1 d2.2.2
    have eq : q = (0, q.2) := by rw [← d1]
    rw [eq]
    rcases hC with ⟨a1, a2⟩ | ⟨a1, a2, a3⟩
    · rcases hR with ⟨b1, b2⟩ | ⟨b1, b2, b3⟩
      · exact Or.inl ⟨a1, b1⟩
      · exact (Gr_v b2 (Vd_sm hsm a2)).elim
    · rcases hR with ⟨b1, b2⟩ | ⟨b1, b2, b3⟩
      · exact (Gr_v a2 (Vd_sm (Sm_s hsm) b2)).elim
      · exact Or.inr ⟨a1, b1, a2.1, hz _ a2.1 ((c2 _ a2.1).1 a2.2.1), Gr_bb (by decide) c3.2.1 c3.2.2 a2, Gr_u (Gr_sm hsm a2) b2, a3, b3⟩
  · have hv : Vd (L + 1) (cT G) := fun D hd hB => by
      have := (d3 D hd).2 ⟨hz D hd ((c2 D hd).1 hB), (c2 D hd).1 hB⟩
      rw [d1] at this
      exact absurd this.1 (by decide)
    rcases hC with ⟨a1, _⟩ | ⟨_, a2, _⟩
    · exact Or.inl ⟨a1, rcl_v d1⟩
    · exact (Gr_v a2 hv).elim
