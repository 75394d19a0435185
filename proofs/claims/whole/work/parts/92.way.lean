/-! The way to a place. -/
/-- the edges on the way to node k, which is n deep -/
def rdE (F : mj_F) : Nat → Nat → Nat → Int
  | 0, _, _ => 0
  | n + 1, k, i => if i = n then F 238 k else rdE F n (F 237 k).toNat i
/-- written into the row a -/
def wyF (F : mj_F) (a : Nat) : Nat → Nat → mj_F → mj_F
  | 0, _, G => G
  | n + 1, k, G => wyF F a n (F 237 k).toNat (mj_u G a n (F 238 k))
theorem wyF_o {F : mj_F} {a b q : Nat} (h : b ≠ a) : ∀ n k G, wyF F a n k G b q = G b q := by
  intro n
  induction n with
  | zero => exact fun _ _ => rfl
  | succ n ih =>
    intro k G
    show wyF F a n (F 237 k).toNat (mj_u G a n (F 238 k)) b q = _
    rw [ih, u_o (Or.inl h)]
theorem wyF_hi {F : mj_F} {a q : Nat} : ∀ n k G, n ≤ q → wyF F a n k G a q = G a q := by
  intro n
  induction n with
  | zero => exact fun _ _ _ => rfl
  | succ n ih =>
    intro k G h
    show wyF F a n (F 237 k).toNat (mj_u G a n (F 238 k)) a q = _
    rw [ih _ _ (by omega), u_o (Or.inr (by omega))]
theorem wyF_at {F : mj_F} {a i : Nat} : ∀ n k G, i < n → wyF F a n k G a i = rdE F n k i := by
  intro n
  induction n with
  | zero => intro k G h; omega
  | succ n ih =>
    intro k G h
    show wyF F a n (F 237 k).toNat (mj_u G a n (F 238 k)) a i = (if i = n then F 238 k else rdE F n (F 237 k).toNat i)
    by_cases hi : i = n
    · rw [if_pos hi, hi, wyF_hi _ _ _ (Nat.le_refl n), u_self]
    · rw [if_neg hi, ih _ _ (by omega)]
theorem wM {n : Nat} (h : n < 1000) : mj_w (((n + 1 : Nat) : Int) - 1 + (-1)) = (n : Int) - 1 := by unfold mj_w; omega
theorem wM0 {n : Nat} (h : n < 1000) : mj_w ((n : Int) - 1) = (n : Int) - 1 := by unfold mj_w; omega
theorem rdE_c {f g : mj_F} (h7 : g 237 = f 237) (h8 : g 238 = f 238) : ∀ n k i, rdE g n k i = rdE f n k i := by
  intro n
  induction n with
  | zero => exact fun _ _ => rfl
  | succ n ih =>
    intro k i
    show (if i = n then g 238 k else rdE g n (g 237 k).toNat i) = (if i = n then f 238 k else rdE f n (f 237 k).toNat i)
    rw [ih, h7, h8]
/-- the way is a chain from the start to the node's place -/
theorem way_chn {sw : Bool} {f : mj_F} {c np ne st N : Nat} (rc : RC sw f c np ne st N) : ∀ n k : Nat, k < N → f 42 k = (n : Int) → (∀ i, i < n → ∃ e : Nat, rdE f n k i = (e : Int) ∧ e < ne ∧ f 228 e = (pla f (fun i => (rdE f n k i).toNat) st i : Int)) ∧ f 236 k = (pla f (fun i => (rdE f n k i).toNat) st n : Int) := by
  intro n
  induction n with
  | zero =>
    intro k hk hd
    refine ⟨fun i hi => absurd hi (by omega), ?_⟩
    have hk0 : k = 0 := by
      by_cases h : k = 0
      · exact h
      · obtain ⟨j, e, d, a1, a2, a3, a4, a5, a6, _⟩ := (rc.2.2.2.1 k hk).2.2.2.2.1 (by omega)
        omega
    subst hk0
    exact ((rc.2.2.2.1 0 hk).2.2.2.1 rfl).2.2.2.1
  | succ n ih =>
    intro k hk hd
    have hk0 : 0 < k := by
      by_cases h : k = 0
      · subst h
        have := ((rc.2.2.2.1 0 hk).2.2.2.1 rfl).2.2.1
        omega
      · omega
    obtain ⟨j, e, d, a1, a2, a3, a4, a5, a6, a7, a8, a9⟩ := (rc.2.2.2.1 k hk).2.2.2.2.1 hk0
    obtain ⟨i1, i2⟩ := ih j (by omega) (by omega)
    have es : ∀ i, rdE f (n + 1) k i = if i = n then (e : Int) else rdE f n j i := fun i => by
      show (if i = n then f 238 k else rdE f n (f 237 k).toNat i) = _
      rw [a4, a3, Int.toNat_natCast]
    have ep : ∀ m, m ≤ n → pla f (fun i => (rdE f (n + 1) k i).toNat) st m = pla f (fun i => (rdE f n j i).toNat) st m := fun m hm => pla_ed m (fun i hi => by
      show (rdE f (n + 1) k i).toNat = (rdE f n j i).toNat
      rw [es, if_neg (by omega)])
    refine ⟨fun i hi => ?_, ?_⟩
    · by_cases h : i = n
      · subst h
        refine ⟨e, by rw [es, if_pos rfl], a2, ?_⟩
        rw [ep i (Nat.le_refl i), ← i2]
        exact a8
      · obtain ⟨e', b1, b2, b3⟩ := i1 i (by omega)
        refine ⟨e', by rw [es, if_neg h]; exact b1, b2, ?_⟩
        rw [ep i (by omega)]
        exact b3
    · show f 236 k = ((f 229 (rdE f (n + 1) k n).toNat).toNat : Int)
      rw [es, if_pos rfl, Int.toNat_natCast, a9]
      obtain ⟨a, _, _, p2⟩ := (rc.2.2.2.1 k hk).1
      rw [p2, Int.toNat_natCast]
section WA
variable {sw : Bool} {w : mj_W}
theorem G_way_run (hw : wk sw w) {F : mj_F} {c np ne st N : Nat} (rc : RC sw F c np ne st N) (x1 x3 : Int) : ∀ n k : Nat, k < N → F 42 k = (n : Int) → ∀ G : mj_F, (∀ a q, a ≠ 45 → G a q = F a q) → mj_run yG_findWay w G 26 [.inr (.inl 37), .inl x1, .inl (k : Int), .inl x3, .inl ((n : Int) - 1)] [] = some (w, wyF F 45 n k G, some (.inl x3)) := by
  have hN := rc.1
  intro n
  induction n with
  | zero =>
    intro k hk hd G hG
    rw [l_G_findWay_26 hw, if_pos (by omega)]
    rfl
  | succ n ih =>
    intro k hk hd G hG
    have hk0 : 0 < k := by
      by_cases h : k = 0
      · subst h
        have := ((rc.2.2.2.1 0 hk).2.2.2.1 rfl).2.2.1
        omega
      · omega
    obtain ⟨_, p40, p41, _, hS, _⟩ := rc.2.2.2.1 k hk
    obtain ⟨j, e, d, a1, a2, a3, a4, a5, a6, a7, a8, a9⟩ := hS hk0
    have gk : (0 : Int) ≤ (k : Int) ∧ (k : Int) < ((60 : Nat) : Int) := ⟨by omega, by omega⟩
    have en : (((n + 1 : Nat) : Int) - 1).toNat = n := by omega
    have e41 : G 41 k = F 238 k := by rw [hG 41 k (by decide)]; exact p41
    have e40 : ∀ v, mj_u G 45 n v 40 k = (j : Int) := fun v => by rw [u_o (Or.inl (by decide)), hG 40 k (by decide), p40]; exact a3
    have i1 := ih j (by omega) (by omega) (mj_u G 45 n (F 238 k)) (fun a q h => by rw [u_o (Or.inl h)]; exact hG a q h)
    rw [l_G_findWay_26 hw, if_neg (by omega), if_neg (by omega), mj_gd_pos gk, mj_gd_pos ⟨by omega, by omega⟩, mj_gd_pos gk, en, Int.toNat_natCast, e41, e40, wM (by omega), i1]
    have e9 : wyF F 45 (n + 1) k G = wyF F 45 n (F 237 k).toNat (mj_u G 45 n (F 238 k)) := rfl
    rw [e9, a3, Int.toNat_natCast]
theorem M_road_run (hw : wk sw w) {F : mj_F} {c np ne st N : Nat} (rc : RC sw F c np ne st N) (x1 x2 : Int) : ∀ n k : Nat, k < N → F 42 k = (n : Int) → ∀ G : mj_F, (∀ a q, a ≠ 254 → a ≠ 223 → G a q = F a q) → mj_run yM_laysRoad w G 33 [.inr (.inl 223), .inl x1, .inl x2, .inl (k : Int), .inl ((n : Int) - 1)] [] = some (w, wyF F 254 n k G, some (.inl 1)) := by
  have hN := rc.1
  intro n
  induction n with
  | zero =>
    intro k hk hd G hG
    rw [l_M_laysRoad_33 hw, if_pos (by omega)]
    rfl
  | succ n ih =>
    intro k hk hd G hG
    have hk0 : 0 < k := by
      by_cases h : k = 0
      · subst h
        have := ((rc.2.2.2.1 0 hk).2.2.2.1 rfl).2.2.1
        omega
      · omega
    obtain ⟨_, p40, p41, _, hS, _⟩ := rc.2.2.2.1 k hk
    obtain ⟨j, e, d, a1, a2, a3, a4, a5, a6, a7, a8, a9⟩ := hS hk0
    have gk : (0 : Int) ≤ (k : Int) ∧ (k : Int) < ((60 : Nat) : Int) := ⟨by omega, by omega⟩
    have en : (((n + 1 : Nat) : Int) - 1).toNat = n := by omega
    have e41 : G 238 k = F 238 k := hG 238 k (by decide) (by decide)
    have e40 : ∀ v, mj_u G 254 n v 237 k = (j : Int) := fun v => by rw [u_o (Or.inl (by decide)), hG 237 k (by decide) (by decide)]; exact a3
    have i1 := ih j (by omega) (by omega) (mj_u G 254 n (F 238 k)) (fun a q h h' => by rw [u_o (Or.inl h)]; exact hG a q h h')
    rw [l_M_laysRoad_33 hw, if_neg (by omega), mj_gd_pos gk, mj_gd_pos ⟨by omega, by omega⟩, mj_gd_pos gk, en, Int.toNat_natCast, e41, e40, wM (by omega), i1]
    have e9 : wyF F 254 (n + 1) k G = wyF F 254 n (F 237 k).toNat (mj_u G 254 n (F 238 k)) := rfl
    rw [e9, a3, Int.toNat_natCast]
/-- findWay: no way, or the way that is written -/
theorem G_findWay (hw : wk sw w) {F : mj_F} {c np ne st N p : Nat} (rc : RC sw F c np ne st N) (h8 : np ≤ 8) (hp : p < np) : (F 44 p = -2 ∧ mj_call yG_findWay w F [.inr (.inl 37), .inl (p : Int)] = some (w, F, some (.inl (-2)))) ∨ ∃ k n : Nat, k < N ∧ n < N ∧ F 44 p = (k : Int) ∧ F 236 k = (p : Int) ∧ F 42 k = (n : Int) ∧ mj_call yG_findWay w F [.inr (.inl 37), .inl (p : Int)] = some (w, wyF F 45 n k F, some (.inl (n : Int))) := by
  have hN := rc.1
  have gp : (0 : Int) ≤ (p : Int) ∧ (p : Int) < ((8 : Nat) : Int) := ⟨by omega, by omega⟩
  rcases rc.2.2.2.2 p hp with ⟨a, _⟩ | ⟨k, hk, a, b, _⟩
  · refine Or.inl ⟨a, ?_⟩
    rw [c_G_findWay hw, mj_gd_pos gp, Int.toNat_natCast, a, if_neg (by decide)]
  · obtain ⟨n, d1, d2, _⟩ := M_depth hw rc hk
    refine Or.inr ⟨k, n, hk, by omega, a, b, d1, ?_⟩
    have gk : (0 : Int) ≤ (k : Int) ∧ (k : Int) < ((60 : Nat) : Int) := ⟨by omega, by omega⟩
    rw [c_G_findWay hw, mj_gd_pos gp, Int.toNat_natCast, a, if_pos (by omega), mj_gd_pos gk, Int.toNat_natCast, d1, wM0 (by omega)]
    exact G_way_run hw rc _ _ n k hk d1 F (fun _ _ _ => rfl)
theorem M_laysRoad (hw : wk sw w) {F : mj_F} {c np ne st N p : Nat} (rc : RC sw F c np ne st N) (hp : p < np) : (F 44 p = -2 → mj_call yM_laysRoad w F [.inr (.inl 223), .inl (p : Int)] = some (w, F, some (.inl 0))) ∧ ∀ k n : Nat, k < N → F 44 p = (k : Int) → F 42 k = (n : Int) → mj_call yM_laysRoad w F [.inr (.inl 223), .inl (p : Int)] = some (w, wyF F 254 n k (mj_u F 223 56 (n : Int)), some (.inl 1)) := by
  have hN := rc.1
  refine ⟨fun a => ?_, fun k n hk a b => ?_⟩
  · rw [c_M_laysRoad hw, M_firstNode hw rc hp, mj_bi_some, a, if_neg (by decide)]
  · obtain ⟨d, d1, d2, d3⟩ := M_depth hw rc hk
    have : d = n := by omega
    subst this
    rw [c_M_laysRoad hw, M_firstNode hw rc hp, mj_bi_some, a, if_pos (by omega), d3, mj_bi_some, u_self, wM0 (by omega)]
    exact M_road_run hw rc _ _ d k hk d1 (mj_u F 223 56 (d : Int)) (fun a q _ h => u_o (Or.inl h))
theorem Cor_wy {F : mj_F} {n k : Nat} : Cor sw F (wyF F 45 n k F) := Cor_a (fun a q h => wyF_o (by omega) n k F)
theorem Cor_rd {F : mj_F} {n k : Nat} {v : Int} : Cor sw F (wyF F 254 n k (mj_u F 223 56 v)) := Cor_t (Cor_u (a := 223) (k := 56) (Or.inr (Or.inr (Or.inr (Or.inr ⟨rfl, by unfold cM; omega⟩))))) (Cor_a (fun a q h => wyF_o (by omega) n k _))
theorem ok_way (hw : wk sw w) {f : mj_F} (r : RR sw f) (x1 x2 : Int) : Ok sw w f yX_way yM_way [.inl x1, .inl x2] := by
  obtain ⟨c, np, ne, st, N, L, nx, d, tp, ed, r⟩ := r
  obtain ⟨⟨hc4, hn8, he16, _, _⟩, ⟨_, xc, mc, xp, mp, xe, me, xs, ms⟩, hL, hE, h0, hg⟩ := r.1
  have xn := r.2.2.1.2.1
  have mn := r.2.2.1.2.2.1
  have hN := r.2.2.1.1
  have mc' : mj_u f 223 0 0 223 2 = (c : Int) := mc
  have mp' : mj_u f 223 0 0 223 3 = (np : Int) := mp
  have me' : mj_u f 223 0 0 223 4 = (ne : Int) := me
  have mn' : mj_u f 223 0 0 223 23 = (N : Int) := mn
  by_cases hV : (0 ≤ x1 ∧ x1 < (np : Int)) ∧ -1 ≤ x2
  · obtain ⟨p, rfl⟩ : ∃ p : Nat, x1 = (p : Int) := ⟨x1.toNat, by omega⟩
    have hp : p < np := by omega
    rcases G_findWay hw r.2.2.1 hn8 hp with ⟨a, e1⟩ | ⟨k, n, hk, hn, a, _, dk, e1⟩
    · have e2 := (M_laysRoad hw (RX_c Cor_0 r).2.2.1 hp).1 (by rw [mu0a (by decide)]; exact a)
      refine Ok_i ⟨c, np, ne, st, N, L, nx, d, tp, ed, r⟩ (F1 := f) (F3 := mj_u f 223 0 0) (v := -2) ?_ (Cor_r _ _) ?_ Cor_0
      · simp only [c_X_way hw, X_isPlace hw f xp, mj_bi_some, i01]
        rw [if_neg (by omega), if_pos (by omega), e1, mj_bi_some, if_pos (by decide)]
      · simp only [c_M_way hw, M_isPlace hw _ mp' (by omega), mj_bi_some, i01]
        rw [if_neg (by omega), if_pos (by omega), e2, mj_bi_some, if_neg (by decide)]
    · have c1 : Cor sw f (wyF f 45 n k f) := Cor_wy
      obtain ⟨F1, hF1⟩ : ∃ F1, F1 = wyF f 45 n k f := ⟨_, rfl⟩
      rw [← hF1] at c1 e1
      obtain ⟨G, hG⟩ : ∃ G, G = mj_u F1 223 0 0 := ⟨_, rfl⟩
      have cG : Cor sw F1 G := hG ▸ Cor_0
      have c2 := Cor_t c1 cG
      have rG := RX_c c2 r
      have e2 := (M_laysRoad hw rG.2.2.1 hp).2 k n hk (by rw [c2.1 44 (cA_g (by omega))]; exact a) (by rw [c2.1 42 (cA_g (by omega))]; exact dk)
      have hrd : ∀ i, i < n → wyF G 254 n k (mj_u G 223 56 (n : Int)) 254 i = F1 45 i := fun i hi => by
        rw [wyF_at n k _ hi, hF1, wyF_at n k _ hi, rdE_c (c2.1 237 (cA_m (by omega))) (c2.1 238 (cA_m (by omega)))]
      have h56 : wyF G 254 n k (mj_u G 223 56 (n : Int)) 223 56 = (n : Int) := by rw [wyF_o (by decide), u_self]
      have mpG : G 223 3 = (np : Int) := (c2.2.2.2.2 3 (by unfold cM; omega)).trans mp
      obtain ⟨v, hv⟩ : ∃ v, v = if x2 = -1 then (n : Int) else if x2 < (n : Int) then F1 45 x2.toNat else -2 := ⟨_, rfl⟩
      refine Ok_i ⟨c, np, ne, st, N, L, nx, d, tp, ed, r⟩ (F1 := F1) (F3 := wyF G 254 n k (mj_u G 223 56 (n : Int))) (v := v) ?_ c1 ?_ (Cor_t cG Cor_rd)
      · simp only [c_X_way hw, X_isPlace hw f xp, mj_bi_some, i01]
        rw [if_neg (by omega), if_pos (by omega), e1, mj_bi_some, if_neg (by omega), hv]
        by_cases h1 : x2 = -1
        · rw [if_pos (by omega), if_neg (fun q => q h1), if_pos h1]
        · rw [if_neg h1]
          by_cases h2 : x2 < (n : Int)
          · rw [if_pos h2, if_pos h1, mj_gd_pos ⟨by omega, by omega⟩, if_pos h2]
          · rw [if_neg h2, if_neg h2]
      · rw [c_M_way hw, ← hG, M_isPlace hw G mpG (by omega), mj_bi_some]
        simp only [i01]
        rw [if_neg (by omega), if_pos (by omega), e2, mj_bi_some, if_pos (by decide), h56, hv]
        by_cases h1 : x2 = -1
        · rw [if_neg (fun q => q h1), if_pos h1]
        · rw [if_pos h1, if_neg h1]
          by_cases h2 : x2 < (n : Int)
          · rw [if_neg (by omega), mj_gd_pos ⟨by omega, by omega⟩, if_pos h2, hrd _ (by omega)]
          · rw [if_pos (by omega), if_neg h2]
  · refine Ok_i ⟨c, np, ne, st, N, L, nx, d, tp, ed, r⟩ (F1 := f) (F3 := mj_u f 223 0 0) (v := -1) ?_ (Cor_r _ _) ?_ Cor_0
    · simp only [c_X_way hw, X_isPlace hw f xp, mj_bi_some, i01]
      repeat' split
      all_goals first | rfl | (exfalso; omega)
    · simp only [c_M_way hw, M_isPlace hw _ mp' (by omega), mj_bi_some, i01]
      repeat' split
      all_goals first | rfl | (exfalso; omega)
end WA
