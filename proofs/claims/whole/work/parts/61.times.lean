/-! The class's times of a trace: lower, keepRules, takeEdge. -/
theorem ixw21 {k i : Nat} (hk : k < 21) (hi : i < 21) : mj_w (mj_w ((k : Int) * 21) + (i : Int)) = ((21 * k + i : Nat) : Int) ∧ 21 * k + i < 441 := ixw (S := 21) (by decide) hk hi
theorem ix4 {e j : Nat} (he : e < 16) (hj : j < 4) : mj_w (mj_w ((e : Int) * 4) + (j : Int)) = ((4 * e + j : Nat) : Int) := by unfold mj_w; omega
theorem ix4g {e j : Nat} (he : e < 16) (hj : j < 4) : (0 : Int) ≤ ((4 * e + j : Nat) : Int) ∧ ((4 * e + j : Nat) : Int) < ((64 : Nat) : Int) := ⟨by omega, by omega⟩
def lwI (G : Mt) (i j : Nat) (b : Int) : Mt := um G i j (if b < G i j then b else G i j)
/-- one rule at a moment -/
def tks (f : mj_F) (p i mo : Nat) (G : Mt) : Mt := lwI (lwI G mo (f 173 (f (p + 5) i).toNat).toNat (upB (f (p + 6) i) (mj_w (f (p + 7) i - f 174 (f (p + 5) i).toNat)))) (f 173 (f (p + 5) i).toNat).toNat mo (loB (f (p + 6) i) (mj_w (f (p + 7) i - f 174 (f (p + 5) i).toNat)))
def tkm (f : mj_F) (p l mo m : Nat) (G : Mt) : Mt := itr m (fun k G => tks f p (6 * l + k) mo G) G
def tkl (f : mj_F) (p l mo : Nat) (G : Mt) : Mt := tkm f p l mo (f (p + 4) l).toNat G
def okT (f : mj_F) (p l : Nat) : Prop := ∃ m : Nat, m ≤ 6 ∧ f (p + 4) l = (m : Int) ∧ ∀ k, k < m → 0 ≤ f (p + 5) (6 * l + k) ∧ f (p + 5) (6 * l + k) < 4
def okM (f : mj_F) : Prop := ∀ c, c < 4 → 0 ≤ f 173 c ∧ f 173 c < 21
section TT
variable {sw : Bool} {w : mj_W}
theorem T_lower (hw : wk sw w) (f : mj_F) (G : Mt) {i j : Nat} (b : Int) (hi : i < 21) (hj : j < 21) : mj_call yT_lower w (sm 171 21 f G) [.inr (.inl 170), .inl (i : Int), .inl (j : Int), .inl b] = some (w, sm 171 21 f (lwI G i j b), none) := by
  have e := ixw21 hi hj
  rw [c_T_lower hw, e.1, mj_gd_pos ⟨by omega, by omega⟩, mj_gd_pos ⟨by omega, by omega⟩, Int.toNat_natCast, sm_get hi hj, sm_put hi hj]
  rfl
theorem T_keepRules (hw : wk sw w) {p : Nat} (hp : pn p) (f : mj_F) {l mo m : Nat} (hl : l < 24) (hmo : mo < 21) (hm6 : m ≤ 6) (hm : f (p + 4) l = (m : Int)) (hc : ∀ k, k < m → 0 ≤ f (p + 5) (6 * l + k) ∧ f (p + 5) (6 * l + k) < 4) (hs : okM f) (G : Mt) : mj_call yT_keepRules w (sm 171 21 f G) [.inr (.inl 170), .inr (.inl p), .inl (l : Int), .inl (mo : Int)] = some (w, sm 171 21 f (tkm f p l mo m G), none) := by
  have hq : ∀ k, k ≤ 12 → p + k ≠ 171 := by
    intro k hk
    rcases hp with rfl | rfl <;> omega
  rw [c_T_keepRules hw _ p _ _ hp]
  obtain ⟨u, h⟩ := loop_ex (fun k (G : Mt) (u : mj_V × mj_V × mj_V × mj_V) => mj_run yT_keepRules w (sm 171 21 f G) 3 [.inr (.inl 170), .inr (.inl p), .inl (l : Int), .inl (mo : Int), .inl (k : Int), u.1, u.2.1, u.2.2.1, u.2.2.2] []) (fun k G => tks f p (6 * l + k) mo G) m (fun k G u hk => by
    have e : mj_w (mj_w ((l : Int) * 6) + (k : Int)) = ((6 * l + k : Nat) : Int) := by unfold mj_w; omega
    have hck := hc k hk
    have g : (0 : Int) ≤ ((6 * l + k : Nat) : Int) ∧ ((6 * l + k : Nat) : Int) < ((144 : Nat) : Int) := ⟨by omega, by omega⟩
    have s5 : ∀ G q, sm 171 21 f G (p + 5) q = f (p + 5) q := fun G q => sm_o (hq 5 (by omega))
    have s6 : ∀ G q, sm 171 21 f G (p + 6) q = f (p + 6) q := fun G q => sm_o (hq 6 (by omega))
    have s7 : ∀ G q, sm 171 21 f G (p + 7) q = f (p + 7) q := fun G q => sm_o (hq 7 (by omega))
    have s173 : ∀ G q, sm 171 21 f G 173 q = f 173 q := fun G q => sm_o (by decide)
    have s174 : ∀ G q, sm 171 21 f G 174 q = f 174 q := fun G q => sm_o (by decide)
    obtain ⟨c, hcc⟩ : ∃ c : Nat, f (p + 5) (6 * l + k) = (c : Int) := ⟨(f (p + 5) (6 * l + k)).toNat, by omega⟩
    have hc4 : c < 4 := by omega
    obtain ⟨s, hss⟩ : ∃ s : Nat, f 173 c = (s : Int) := ⟨(f 173 c).toNat, by have := hs c hc4; omega⟩
    have hs21 : s < 21 := by have := hs c hc4; omega
    have g2 : (0 : Int) ≤ (c : Int) ∧ (c : Int) < ((4 : Nat) : Int) := ⟨by omega, by omega⟩
    rw [l_T_keepRules_3 hw _ p _ _ _ _ _ _ _ hp, mj_gd_pos ⟨by omega, by omega⟩, Int.toNat_natCast, sm_o (hq 4 (by omega)), hm, if_neg (by omega), e]
    simp only [mj_gd_pos g, Int.toNat_natCast, s5, s6, s7, s173, s174, hcc, mj_gd_pos g2, hss]
    rw [X_upperOf hw, mj_bi_some, T_lower hw f G _ hmo hs21, mj_bu_some, X_lowerOf hw, mj_bi_some]
    simp only [s173, hss]
    rw [T_lower hw f _ _ hs21 hmo, mj_bu_some, wS (by omega)]
    unfold tks
    rw [hcc, Int.toNat_natCast, hss, Int.toNat_natCast]
    exact ⟨(_, _, _, _), rfl⟩) G (.inr (.inr (.inr 0)), .inr (.inr (.inr 0)), .inr (.inr (.inr 0)), .inr (.inr (.inr 0)))
  refine h.trans ?_
  rw [l_T_keepRules_3 hw _ p _ _ _ _ _ _ _ hp, mj_gd_pos ⟨by omega, by omega⟩, Int.toNat_natCast, sm_o (hq 4 (by omega)), hm, if_pos (by omega)]
  rfl
theorem T_keep (hw : wk sw w) {p : Nat} (hp : pn p) (f : mj_F) {l mo : Nat} (hl : l < 24) (hmo : mo < 21) (ho : okT f p l) (hs : okM f) (G : Mt) : mj_call yT_keepRules w (sm 171 21 f G) [.inr (.inl 170), .inr (.inl p), .inl (l : Int), .inl (mo : Int)] = some (w, sm 171 21 f (tkl f p l mo G), none) := by
  obtain ⟨m, h1, h2, h3⟩ := ho
  unfold tkl
  rw [h2, Int.toNat_natCast]
  exact T_keepRules hw hp f hl hmo h1 h2 h3 hs G
/-- sets of an edge: when, and what -/
def stM (f : mj_F) (p e mo m : Nat) : mj_F := itr m (fun k g => mj_u (mj_u g 173 (f (p + 11) (4 * e + k)).toNat (mo : Int)) 174 (f (p + 11) (4 * e + k)).toNat (f (p + 12) (4 * e + k))) f
theorem stM_o {f : mj_F} {p e mo m a q : Nat} (h1 : a ≠ 173) (h2 : a ≠ 174) : stM f p e mo m a q = f a q := by
  induction m with
  | zero => rfl
  | succ m ih =>
    show mj_u (mj_u (stM f p e mo m) 173 _ _) 174 _ _ a q = _
    rw [u_o (Or.inl h2), u_o (Or.inl h1), ih]
theorem stM_ok {f : mj_F} {p e mo m : Nat} (hmo : mo < 21) (h : okM f) : okM (stM f p e mo m) := by
  induction m with
  | zero => exact h
  | succ m ih =>
    intro c hc
    have es : stM f p e mo (m + 1) = mj_u (mj_u (stM f p e mo m) 173 (f (p + 11) (4 * e + m)).toNat (mo : Int)) 174 (f (p + 11) (4 * e + m)).toNat (f (p + 12) (4 * e + m)) := rfl
    rw [es, u_o (Or.inl (by decide))]
    unfold mj_u
    split
    · omega
    · exact ih c hc
def teF (f : mj_F) (p e mo : Nat) : mj_F := stM f p e mo (f (p + 10) e).toNat
def teG (f : mj_F) (p e l1 l2 mo : Nat) (G : Mt) : Mt := tkl (teF f p e mo) p l2 mo (tkl f p (8 + e) mo (tkl f p l1 mo (lwI G (mo - 1) mo 1)))
def okE (f : mj_F) (p e : Nat) : Prop := ∃ m : Nat, m ≤ 4 ∧ f (p + 10) e = (m : Int) ∧ ∀ k, k < m → 0 ≤ f (p + 11) (4 * e + k) ∧ f (p + 11) (4 * e + k) < 4
theorem okT_e {f g : mj_F} {p l : Nat} (h4 : ∀ q, g (p + 4) q = f (p + 4) q) (h5 : ∀ q, g (p + 5) q = f (p + 5) q) (h : okT f p l) : okT g p l := by
  obtain ⟨m, a, b, c⟩ := h
  exact ⟨m, a, (h4 l).trans b, fun k hk => by rw [h5]; exact c k hk⟩
theorem T_takeEdge (hw : wk sw w) {p : Nat} (hp : pn p) (f : mj_F) {e l1 l2 mo : Nat} (he : e < 16) (hl1 : l1 < 8) (hl2 : l2 < 8) (hmo : mo < 21) (hmo0 : 0 < mo) (hfrom : f (p + 8) e = (l1 : Int)) (hto : f (p + 9) e = (l2 : Int)) (o1 : okT f p l1) (o2 : okT f p (8 + e)) (o3 : okT f p l2) (oe : okE f p e) (hs : okM f) (G : Mt) : mj_call yT_takeEdge w (sm 171 21 f G) [.inr (.inl 170), .inr (.inl p), .inl (e : Int), .inl (mo : Int)] = some (w, sm 171 21 (teF f p e mo) (teG f p e l1 l2 mo G), none) := by
  have hq : ∀ k, k ≤ 12 → p + k ≠ 171 := by
    intro k hk
    rcases hp with rfl | rfl <;> omega
  have hq3 : ∀ k, k ≤ 12 → p + k ≠ 173 := by
    intro k hk
    rcases hp with rfl | rfl <;> omega
  have hq4 : ∀ k, k ≤ 12 → p + k ≠ 174 := by
    intro k hk
    rcases hp with rfl | rfl <;> omega
  have e1 : mj_w ((mo : Int) - 1) = ((mo - 1 : Nat) : Int) := by unfold mj_w; omega
  rw [c_T_takeEdge hw _ p _ _ hp, e1, T_lower hw f G 1 (by omega) hmo, mj_bu_some, mj_gd_pos ⟨by omega, by omega⟩, Int.toNat_natCast, sm_o (hq 8 (by omega)), hfrom, X_stayRules hw, mj_bi_some, T_keep hw hp f (by omega) hmo o1 hs, mj_bu_some, X_edgeRules hw _ he, mj_bi_some, T_keep hw hp f (by omega) hmo o2 hs, mj_bu_some]
  clear e1
  obtain ⟨m, m4, hm, hc⟩ := oe
  generalize hG : tkl f p (8 + e) mo (tkl f p l1 mo (lwI G (mo - 1) mo 1)) = G1
  have key : ∀ j, j ≤ m → ∃ u, mj_run yT_takeEdge w (sm 171 21 f G1) 37 [.inr (.inl 170), .inr (.inl p), .inl (e : Int), .inl (mo : Int), .inl 0, .inr (.inr (.inr 0))] [] = mj_run yT_takeEdge w (sm 171 21 (stM f p e mo j) G1) 37 [.inr (.inl 170), .inr (.inl p), .inl (e : Int), .inl (mo : Int), .inl (j : Int), u] [] := by
    intro j
    induction j with
    | zero => exact fun _ => ⟨.inr (.inr (.inr 0)), by rw [show ((0 : Nat) : Int) = 0 from rfl, show stM f p e mo 0 = f from rfl]⟩
    | succ j ih =>
      intro hj
      obtain ⟨u, h⟩ := ih (by omega)
      have ei := ix4 he (show j < 4 by omega)
      have hcj := hc j (by omega)
      have g := ix4g he (show j < 4 by omega)
      have s11 : ∀ q, sm 171 21 (stM f p e mo j) G1 (p + 11) q = f (p + 11) q := fun q => by rw [sm_o (hq 11 (by omega)), stM_o (hq3 11 (by omega)) (hq4 11 (by omega))]
      have s12 : ∀ q, sm 171 21 (stM f p e mo j) G1 (p + 12) q = f (p + 12) q := fun q => by rw [sm_o (hq 12 (by omega)), stM_o (hq3 12 (by omega)) (hq4 12 (by omega))]
      have s10 : ∀ q, sm 171 21 (stM f p e mo j) G1 (p + 10) q = f (p + 10) q := fun q => by rw [sm_o (hq 10 (by omega)), stM_o (hq3 10 (by omega)) (hq4 10 (by omega))]
      refine ⟨.inl ((4 * e + j : Nat) : Int), h.trans ?_⟩
      have u11 : ∀ x v q, mj_u (sm 171 21 (stM f p e mo j) G1) 173 x v (p + 11) q = f (p + 11) q := fun x v q => by rw [u_o (Or.inl (hq3 11 (by omega))), s11]
      have u12 : ∀ x v q, mj_u (sm 171 21 (stM f p e mo j) G1) 173 x v (p + 12) q = f (p + 12) q := fun x v q => by rw [u_o (Or.inl (hq3 12 (by omega))), s12]
      have g2 : (0 : Int) ≤ f (p + 11) (4 * e + j) ∧ f (p + 11) (4 * e + j) < ((4 : Nat) : Int) := ⟨hcj.1, hcj.2⟩
      have es : stM f p e mo (j + 1) = mj_u (mj_u (stM f p e mo j) 173 (f (p + 11) (4 * e + j)).toNat (mo : Int)) 174 (f (p + 11) (4 * e + j)).toNat (f (p + 12) (4 * e + j)) := rfl
      rw [l_T_takeEdge_37 hw _ p _ _ _ _ hp, mj_gd_pos ⟨by omega, by omega⟩, Int.toNat_natCast, s10, hm, if_neg (by omega), ei]
      simp only [mj_gd_pos g, Int.toNat_natCast, u11, u12, s11, mj_gd_pos g2]
      rw [wS (by omega), sm_u (by decide), sm_u (by decide), es]
  obtain ⟨u, h⟩ := key m (Nat.le_refl m)
  refine h.trans ?_
  have eF : teF f p e mo = stM f p e mo m := by unfold teF; rw [hm, Int.toNat_natCast]
  rw [l_T_takeEdge_37 hw _ p _ _ _ _ hp, mj_gd_pos ⟨by omega, by omega⟩, Int.toNat_natCast, sm_o (hq 10 (by omega)), stM_o (hq3 10 (by omega)) (hq4 10 (by omega)), hm, if_pos (by omega), mj_gd_pos ⟨by omega, by omega⟩, sm_o (hq 9 (by omega)), stM_o (hq3 9 (by omega)) (hq4 9 (by omega)), hto, X_stayRules hw, mj_bi_some]
  rw [T_keep hw hp (stM f p e mo m) (by omega) hmo (okT_e (fun q => stM_o (hq3 4 (by omega)) (hq4 4 (by omega))) (fun q => stM_o (hq3 5 (by omega)) (hq4 5 (by omega))) o3) (stM_ok hmo hs), mj_bu_some]
  unfold teG
  rw [eF, hG]
end TT
