/-! The readers' small steps. -/
/-- the first place of x among the first m of h, -1 if there is none -/
def fi (h : Nat → Int) (x : Int) : Nat → Int
  | 0 => -1
  | m + 1 => if fi h x m = -1 ∧ h m = x then (m : Int) else fi h x m
theorem fi_r (h : Nat → Int) (x : Int) : ∀ m : Nat, fi h x m = -1 ∨ ∃ i : Nat, i < m ∧ fi h x m = (i : Int)
  | 0 => Or.inl rfl
  | m + 1 => by
    show (if fi h x m = -1 ∧ h m = x then (m : Int) else fi h x m) = -1 ∨ ∃ i : Nat, i < m + 1 ∧ (if fi h x m = -1 ∧ h m = x then (m : Int) else fi h x m) = (i : Int)
    by_cases q : fi h x m = -1 ∧ h m = x
    · rw [if_pos q]; exact Or.inr ⟨m, by omega, rfl⟩
    · rw [if_neg q]
      rcases fi_r h x m with a | ⟨i, a, b⟩
      · exact Or.inl a
      · exact Or.inr ⟨i, by omega, b⟩
theorem fi_c {h h' : Nat → Int} (x : Int) : ∀ {m : Nat}, (∀ i, i < m → h i = h' i) → fi h x m = fi h' x m
  | 0, _ => rfl
  | m + 1, e => by
    show (if fi h x m = -1 ∧ h m = x then (m : Int) else fi h x m) = if fi h' x m = -1 ∧ h' m = x then (m : Int) else fi h' x m
    rw [fi_c x (fun i hi => e i (by omega)), e m (by omega)]
theorem fi_s {h : Nat → Int} {x : Int} {k : Nat} (a : fi h x k = -1) (b : ¬ h k = x) : fi h x (k + 1) = -1 := by
  show (if fi h x k = -1 ∧ h k = x then (k : Int) else fi h x k) = -1
  rw [if_neg (fun z => b z.2), a]
theorem fi_f {h : Nat → Int} {x : Int} {k : Nat} (a : fi h x k = -1) (b : h k = x) : ∀ m : Nat, k < m → fi h x m = (k : Int) := by
  intro m
  induction m with
  | zero => intro z; omega
  | succ m ih =>
    intro z
    show (if fi h x m = -1 ∧ h m = x then (m : Int) else fi h x m) = (k : Int)
    by_cases q : k = m
    · rw [← q, if_pos ⟨a, b⟩]
    · have e := ih (by omega)
      rw [if_neg (by rw [e]; omega), e]
section SM
variable {sw sw' : Bool} {w w' : mj_W}
theorem L_indexIn (hw : wk sw w) (f : mj_F) {r nr m : Nat} (hr : w.1 r = (100, nr)) (hm : m ≤ nr) (hn : nr ≤ 1000) (x : Int) : mj_call yL_indexIn w f [.inr (.inl r), .inl (m : Int), .inl x] = some (w, f, some (.inl (fi (f r) x m))) := by
  rw [c_L_indexIn hw _ _ _ _ _ hr]
  have L : ∀ d k : Nat, m - k = d → k ≤ m → fi (f r) x k = -1 → mj_run yL_indexIn w f 2 [.inr (.inl r), .inl (m : Int), .inl x, .inl (k : Int)] [] = some (w, f, some (.inl (fi (f r) x m))) := by
    intro d
    induction d with
    | zero =>
      intro k h1 h2 h3
      have : k = m := by omega
      subst this
      rw [l_L_indexIn_2 hw _ _ _ _ _ _ hr, if_pos (by omega), h3]
    | succ d ih =>
      intro k h1 h2 h3
      rw [l_L_indexIn_2 hw _ _ _ _ _ _ hr, if_neg (by omega), mj_gd_pos (by omega), Int.toNat_natCast]
      by_cases q : f r k = x
      · rw [if_neg (fun z => z q), fi_f h3 q m (by omega)]
      · rw [if_pos q, wS (by omega)]
        exact ih (k + 1) (by omega) (by omega) (fi_s h3 q)
  exact L m 0 (by omega) (by omega) rfl
theorem M_at (hw' : wk sw' w') (f : mj_F) {r nr m : Nat} (hr : w'.1 r = (100, nr)) (hm : m ≤ nr) (hn : nr ≤ 1000) (x : Int) : mj_call yM_at w' f [.inr (.inl r), .inl (m : Int), .inl x] = some (w', f, some (.inl (fi (f r) x m))) := by
  rw [c_M_at hw' _ _ _ _ _ hr]
  have L : ∀ d k : Nat, m - k = d → k ≤ m → fi (f r) x k = -1 → mj_run yM_at w' f 2 [.inr (.inl r), .inl (m : Int), .inl x, .inl (k : Int)] [] = some (w', f, some (.inl (fi (f r) x m))) := by
    intro d
    induction d with
    | zero =>
      intro k h1 h2 h3
      have : k = m := by omega
      subst this
      rw [l_M_at_2 hw' _ _ _ _ _ _ hr, if_pos (by omega), h3]
    | succ d ih =>
      intro k h1 h2 h3
      rw [l_M_at_2 hw' _ _ _ _ _ _ hr, if_neg (by omega), mj_gd_pos (by omega), Int.toNat_natCast]
      by_cases q : f r k = x
      · rw [if_neg (fun z => z q), fi_f h3 q m (by omega)]
      · rw [if_pos q, wS (by omega)]
        exact ih (k + 1) (by omega) (by omega) (fi_s h3 q)
  exact L m 0 (by omega) (by omega) rfl
/-- the reference has found a fault -/
def mbad (g : mj_F) (k : Int) : mj_F := mj_u (mj_u (mj_u g 223 33 1) 223 31 k) 223 32 (g 223 28)
/-- the class has -/
def cbad (f : mj_F) (k : Int) : mj_F := mj_u (mj_u f 3 8 k) 3 9 (f 3 6)
theorem mbad_33 (g : mj_F) (k : Int) : mbad g k 223 33 = 1 := by unfold mbad; rw [u_o (Or.inr (by decide)), u_o (Or.inr (by decide)), u_self]
theorem mbad_31 (g : mj_F) (k : Int) : mbad g k 223 31 = k := by unfold mbad; rw [u_o (Or.inr (by decide)), u_self]
theorem mbad_32 (g : mj_F) (k : Int) : mbad g k 223 32 = g 223 28 := by unfold mbad; rw [u_self]
theorem mbad_o (g : mj_F) (k : Int) {a q : Nat} (h : a ≠ 223 ∨ (q ≠ 31 ∧ q ≠ 32 ∧ q ≠ 33)) : mbad g k a q = g a q := by
  unfold mbad
  rw [u_o (by omega), u_o (by omega), u_o (by omega)]
theorem cbad_8 (f : mj_F) (k : Int) : cbad f k 3 8 = k := by unfold cbad; rw [u_o (Or.inr (by decide)), u_self]
theorem cbad_9 (f : mj_F) (k : Int) : cbad f k 3 9 = f 3 6 := by unfold cbad; rw [u_self]
theorem cbad_o (f : mj_F) (k : Int) {a q : Nat} (h : a ≠ 3 ∨ (q ≠ 8 ∧ q ≠ 9)) : cbad f k a q = f a q := by
  unfold cbad
  rw [u_o (by omega), u_o (by omega)]
theorem R_fail (hw : wk sw w) (f : mj_F) (k : Int) : mj_call yR_fail w f [.inr (.inl 3), .inl k] = some (w, cbad f k, some (.inl 0)) := by
  rw [c_R_fail hw, u_o (Or.inr (by decide))]
  rfl
theorem M_must_1 (hw' : wk sw' w') (g : mj_F) {x : Int} (h : ¬ x = 0) (k : Int) : mj_call yM_must w' g [.inr (.inl 223), .inl x, .inl k] = some (w', g, none) := by
  rw [c_M_must hw', if_pos h]
theorem M_must_0 (hw' : wk sw' w') {g : mj_F} (h : g 223 33 = 0) (k : Int) : mj_call yM_must w' g [.inr (.inl 223), .inl 0, .inl k] = some (w', mbad g k, none) := by
  rw [c_M_must hw', if_neg (fun z => z rfl), if_pos h, u_o (Or.inr (by decide)), u_o (Or.inr (by decide))]
  rfl
theorem M_must_b (hw' : wk sw' w') {g : mj_F} (h : g 223 33 = 1) (x k : Int) : mj_call yM_must w' g [.inr (.inl 223), .inl x, .inl k] = some (w', g, none) := by
  rw [c_M_must hw', if_neg (show ¬ g 223 33 = 0 by omega)]
  split <;> rfl
theorem M_isWord (hw' : wk sw' w') {g : mj_F} (h : g 223 33 = 0) (c : Int) : mj_call yM_isWord w' g [.inr (.inl 223), .inl c] = some (w', g, some (.inl (if g 223 29 = 1 ∧ g 223 30 = c then 1 else 0))) := by
  rw [c_M_isWord hw', if_neg (fun z => z h)]
  by_cases a : g 223 29 = 1
  · rw [if_neg (fun z => z a)]
    by_cases b : g 223 30 = c
    · rw [if_neg (fun z => z b), if_pos ⟨a, b⟩]
    · rw [if_pos b, if_neg (fun z => b z.2)]
  · rw [if_pos a, if_neg (fun z => a z.1)]
theorem M_isWord_b (hw' : wk sw' w') {g : mj_F} (h : g 223 33 = 1) (c : Int) : mj_call yM_isWord w' g [.inr (.inl 223), .inl c] = some (w', g, some (.inl 0)) := by
  rw [c_M_isWord hw', if_pos (show ¬ g 223 33 = 0 by omega)]
theorem kwK_1 (v : Int) : kwK v = 1 ↔ ¬ v = 3554411 ∧ ¬ v = 17171557 ∧ ¬ v = 168165 ∧ ¬ v = 20579924 ∧ ¬ v = 762030 ∧ ¬ v = 19636 := by
  unfold kwK
  (repeat' split) <;> omega
theorem M_isName (hw' : wk sw' w') (g : mj_F) : mj_call yM_isName w' g [.inr (.inl 223)] = some (w', g, some (.inl (if g 223 29 = 1 ∧ kwK (g 223 30) = 1 then 1 else 0))) := by
  rw [c_M_isName hw']
  have e := kwK_1 (g 223 30)
  by_cases a : g 223 29 = 1
  · rw [if_neg (fun z => z a)]
    by_cases b : kwK (g 223 30) = 1
    · have := e.1 b
      rw [if_neg this.1, if_neg this.2.1, if_neg this.2.2.1, if_neg this.2.2.2.1, if_neg this.2.2.2.2.1, if_neg this.2.2.2.2.2, if_pos ⟨a, b⟩]
    · rw [if_neg (show ¬ (g 223 29 = 1 ∧ kwK (g 223 30) = 1) from fun z => b z.2)]
      (repeat' split) <;> first | rfl | (exfalso; apply b; rw [e]; refine ⟨?_, ?_, ?_, ?_, ?_, ?_⟩ <;> assumption)
  · rw [if_pos a, if_neg (fun z => a z.1)]
/-- a name stands here -/
def nmH (g : mj_F) : Prop := g 223 29 = 1 ∧ kwK (g 223 30) = 1
section SEEN
variable {r nr m : Nat} {g : mj_F}
theorem M_seen_y (hw' : wk sw' w') (hr : w'.1 r = (100, nr)) (hm : m ≤ nr) (hn : nr ≤ 1000) (h : nmH g) (hf : ¬ fi (g r) (g 223 30) m = -1) : mj_call yM_seenHere w' g [.inr (.inl 223), .inr (.inl r), .inl (m : Int)] = some (w', g, some (.inl (fi (g r) (g 223 30) m))) := by
  have h' : g 223 29 = 1 ∧ kwK (g 223 30) = 1 := h
  rw [c_M_seenHere hw' _ _ _ _ hr, M_isName hw', mj_bi_some, if_pos h', if_neg (by decide), M_at hw' g hr hm hn, mj_bi_some, if_neg hf, M_must_1 hw' g (by decide), mj_bu_some, M_at hw' g hr hm hn, mj_bi_some]
theorem M_seen_n (hw' : wk sw' w') (hr : w'.1 r = (100, nr)) (hm : m ≤ nr) (hn : nr ≤ 1000) (h0 : g 223 33 = 0) (h : ¬ (nmH g ∧ ¬ fi (g r) (g 223 30) m = -1)) : ∃ v : Int, mj_call yM_seenHere w' g [.inr (.inl 223), .inr (.inl r), .inl (m : Int)] = some (w', mbad g 1, some (.inl v)) := by
  refine ⟨fi (mbad g 1 r) (mbad g 1 223 30) m, ?_⟩
  rw [c_M_seenHere hw' _ _ _ _ hr, M_isName hw', mj_bi_some]
  by_cases a : nmH g
  · have b : fi (g r) (g 223 30) m = -1 := Classical.byContradiction fun z => h ⟨a, z⟩
    unfold nmH at a
    rw [if_pos a, if_neg (by decide), M_at hw' g hr hm hn, mj_bi_some, if_pos b, M_must_0 hw' h0, mj_bu_some, M_at hw' _ hr hm hn, mj_bi_some]
  · unfold nmH at a
    rw [if_neg a, if_pos rfl, M_must_0 hw' h0, mj_bu_some, M_at hw' _ hr hm hn, mj_bi_some]
theorem M_seen_b (hw' : wk sw' w') (hr : w'.1 r = (100, nr)) (hm : m ≤ nr) (hn : nr ≤ 1000) (h0 : g 223 33 = 1) : ∃ v : Int, mj_call yM_seenHere w' g [.inr (.inl 223), .inr (.inl r), .inl (m : Int)] = some (w', g, some (.inl v)) := by
  refine ⟨fi (g r) (g 223 30) m, ?_⟩
  rw [c_M_seenHere hw' _ _ _ _ hr, M_isName hw', mj_bi_some]
  by_cases a : g 223 29 = 1 ∧ kwK (g 223 30) = 1
  · rw [if_pos a, if_neg (by decide), M_at hw' g hr hm hn, mj_bi_some]
    by_cases b : fi (g r) (g 223 30) m = -1
    · rw [if_pos b, M_must_b hw' h0, mj_bu_some, M_at hw' _ hr hm hn, mj_bi_some]
    · rw [if_neg b, M_must_b hw' h0, mj_bu_some, M_at hw' _ hr hm hn, mj_bi_some]
  · rw [if_neg a, if_pos rfl, M_must_b hw' h0, mj_bu_some, M_at hw' _ hr hm hn, mj_bi_some]
theorem M_number_y (hw' : wk sw' w') (h0 : g 223 33 = 0) (h : g 223 29 = 2) (h1 : g 223 30 ≤ 50) : mj_call yM_numberHere w' g [.inr (.inl 223)] = mj_bu (mj_call yM_advance w' g [.inr (.inl 223)]) (fun f => some (w', f, some (.inl (g 223 30)))) := by
  rw [c_M_numberHere hw', if_neg (fun z => z h), M_must_1 hw' g (by decide), mj_bu_some, if_neg (by omega), M_must_1 hw' g (by decide), mj_bu_some, if_neg (fun z => z h0)]
theorem M_number_n (hw' : wk sw' w') (h0 : g 223 33 = 0) (h : ¬ (g 223 29 = 2 ∧ g 223 30 ≤ 50)) : ∃ v : Int, mj_call yM_numberHere w' g [.inr (.inl 223)] = some (w', mbad g (if g 223 29 = 2 then 2 else 1), some (.inl v)) := by
  rw [c_M_numberHere hw']
  by_cases a : g 223 29 = 2
  · rw [if_neg (fun z => z a), if_pos a, M_must_1 hw' g (by decide), mj_bu_some, if_pos (by omega), M_must_0 hw' h0, mj_bu_some, if_pos (by rw [mbad_33]; decide)]
    exact ⟨_, rfl⟩
  · rw [if_pos a, if_neg a, M_must_0 hw' h0, mj_bu_some]
    by_cases b : 50 < mbad g 1 223 30
    · rw [if_pos b, M_must_b hw' (mbad_33 _ _), mj_bu_some, if_pos (by rw [mbad_33]; decide)]
      exact ⟨_, rfl⟩
    · rw [if_neg b, M_must_b hw' (mbad_33 _ _), mj_bu_some, if_pos (by rw [mbad_33]; decide)]
      exact ⟨_, rfl⟩
theorem M_number_b (hw' : wk sw' w') (h0 : g 223 33 = 1) : ∃ v : Int, mj_call yM_numberHere w' g [.inr (.inl 223)] = some (w', g, some (.inl v)) := by
  have n0 : ¬ g 223 33 = 0 := by omega
  rw [c_M_numberHere hw']
  refine ⟨g 223 30, ?_⟩
  by_cases a : g 223 29 = 2
  · rw [if_neg (fun z => z a), M_must_b hw' h0, mj_bu_some]
    by_cases b : 50 < g 223 30
    · rw [if_pos b, M_must_b hw' h0, mj_bu_some, if_pos n0]
    · rw [if_neg b, M_must_b hw' h0, mj_bu_some, if_pos n0]
  · rw [if_pos a, M_must_b hw' h0, mj_bu_some]
    by_cases b : 50 < g 223 30
    · rw [if_pos b, M_must_b hw' h0, mj_bu_some, if_pos n0]
    · rw [if_neg b, M_must_b hw' h0, mj_bu_some, if_pos n0]
theorem M_opens_y (hw' : wk sw' w') (h0 : g 223 33 = 0) {x : Int} (h : ¬ x = 0) (k : Int) : mj_call yM_opens w' g [.inr (.inl 223), .inl x, .inl k] = mj_bu (mj_call yM_advance w' g [.inr (.inl 223)]) (fun f => some (w', f, none)) := by
  rw [c_M_opens hw', M_must_1 hw' g h, mj_bu_some, if_neg (fun z => z h0)]
theorem M_opens_n (hw' : wk sw' w') (h0 : g 223 33 = 0) (k : Int) : mj_call yM_opens w' g [.inr (.inl 223), .inl 0, .inl k] = some (w', mbad g k, none) := by
  rw [c_M_opens hw', M_must_0 hw' h0, mj_bu_some, if_pos (by rw [mbad_33]; decide)]
end SEEN
/-- where both readers stand -/
def TJ (f g : mj_F) (T : Nat → Int) (n p b : Nat) (k x t v : Int) : Prop := TP f g T n ∧ f 3 4 = (p : Int) ∧ g 223 27 = (p : Int) ∧ f 3 5 = k ∧ f 3 6 = (b : Int) ∧ g 223 28 = (b : Int) ∧ f 3 7 = x ∧ g 223 29 = t ∧ g 223 30 = v ∧ TK k x t v ∧ b ≤ p ∧ p ≤ n ∧ (k ≠ 0 → b < p)
def Fc (f f' : mj_F) : Prop := (∀ a, a ≠ 3 → f' a = f a) ∧ ∀ q, ¬ (4 ≤ q ∧ q ≤ 7) → f' 3 q = f 3 q
def Fm (g g' : mj_F) : Prop := (∀ a, a ≠ 223 → g' a = g a) ∧ ∀ q, ¬ (27 ≤ q ∧ q ≤ 30) → g' 223 q = g 223 q
theorem Fc_t {f f' f'' : mj_F} (a : Fc f f') (b : Fc f' f'') : Fc f f'' := ⟨fun x h => (b.1 x h).trans (a.1 x h), fun q h => (b.2 q h).trans (a.2 q h)⟩
theorem Fm_t {f f' f'' : mj_F} (a : Fm f f') (b : Fm f' f'') : Fm f f'' := ⟨fun x h => (b.1 x h).trans (a.1 x h), fun q h => (b.2 q h).trans (a.2 q h)⟩
theorem adv_J (hw : wk sw w) (hw' : wk sw' w') {f g : mj_F} {T : Nat → Int} {n p : Nat} (tp : TP f g T n) (h1 : f 3 4 = (p : Int)) (h2 : g 223 27 = (p : Int)) (hp : p ≤ n) : ∃ (f' g' : mj_F) (p' b' : Nat) (k' x' t' v' : Int), mj_call yR_advance w f [.inr (.inl 3)] = some (w, f', none) ∧ mj_call yM_advance w' g [.inr (.inl 223)] = some (w', g', none) ∧ TJ f' g' T n p' b' k' x' t' v' ∧ p ≤ b' ∧ Fc f f' ∧ Fm g g' := by
  obtain ⟨p', b', k', x', t', v', e1, e2, e3, e4, e5, e6, e7⟩ := adv_both hw hw' tp (k := f 3 5) (a := f 3 6) (x := f 3 7) (a' := g 223 28) (t := g 223 29) (v := g 223 30) hp
  rw [← h1, cst_id] at e6
  rw [← h2, mst_id] at e7
  have c1 : Fc f (cst f (p' : Int) k' (b' : Int) x') := ⟨fun a h => by funext q; exact cst_o h, fun q h => by
    unfold cst
    rw [if_pos rfl, if_neg (by omega), if_neg (by omega), if_neg (by omega), if_neg (by omega)]⟩
  have c2 : Fm g (mst g (p' : Int) (b' : Int) t' v') := ⟨fun a h => by funext q; exact mst_o h, fun q h => by
    unfold mst
    rw [if_pos rfl, if_neg (by omega), if_neg (by omega), if_neg (by omega), if_neg (by omega)]⟩
  refine ⟨_, _, p', b', k', x', t', v', e6, e7, ⟨⟨tp.1, cst_3.trans tp.2.1, mst_26.trans tp.2.2.1, fun i hi => by rw [cst_t]; exact tp.2.2.2.1 i hi, fun i hi => by rw [mst_t]; exact tp.2.2.2.2.1 i hi, tp.2.2.2.2.2⟩, cst_4, mst_27, cst_5, cst_6, mst_28, cst_7, mst_29, mst_30, e5, e2, e3, e4⟩, e1, c1, c2⟩
end SM
