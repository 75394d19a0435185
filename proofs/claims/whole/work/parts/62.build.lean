/-! The class's times of a trace, built. -/
def dgI (m : Nat) : Mt := fun i j => if i = j ∧ i < m then 1 else 268435456
theorem dgI_S (m : Nat) : lwI (dgI m) m m 1 = dgI (m + 1) := by
  funext i j
  unfold lwI um dgI
  by_cases h : i = m ∧ j = m
  · rw [if_pos h, if_neg (by omega : ¬ (m = m ∧ m < m)), if_pos (by decide), if_pos (by omega)]
  · rw [if_neg h]
    by_cases h2 : i = j ∧ i < m
    · rw [if_pos h2, if_pos (by omega)]
    · rw [if_neg h2, if_neg (by omega)]
def eOK (f : mj_F) (p e : Nat) : Prop := e < 16 ∧ (∃ l : Nat, l < 8 ∧ f (p + 8) e = (l : Int) ∧ okT f p l) ∧ (∃ l : Nat, l < 8 ∧ f (p + 9) e = (l : Int) ∧ okT f p l) ∧ okT f p (8 + e) ∧ okE f p e
def tb0 (f : mj_F) : mj_F := fillM (fillM f 173 4 0) 174 4 0
def tbI (f : mj_F) (p i : Nat) (S : mj_F × Mt) : mj_F × Mt := (teF S.1 p (f 169 i).toNat (i + 1), teG S.1 p (f 169 i).toNat (f (p + 8) (f 169 i).toNat).toNat (f (p + 9) (f 169 i).toNat).toNat (i + 1) S.2)
def tbS (f : mj_F) (p L : Nat) : mj_F × Mt := itr L (fun i S => tbI f p i S) (tb0 f, tkl (tb0 f) p (f p 4).toNat 0 (dgI (L + 1)))
theorem fill_sm {f : mj_F} {x : Int} : fillM f 171 441 x = sm 171 21 f (fun _ _ => x) := by
  funext b q
  unfold fillM sm
  rfl
theorem fill_smo {f : mj_F} {G : Mt} {a n : Nat} {x : Int} (h : a ≠ 171) : fillM (sm 171 21 f G) a n x = sm 171 21 (fillM f a n x) G := by
  funext b q
  unfold fillM sm
  by_cases h1 : b = a ∧ q < n
  · rw [if_pos h1, if_neg (fun z => h (h1.1.symm.trans z.1))]
    exact (if_pos h1).symm
  · rw [if_neg h1]
    by_cases h2 : b = 171 ∧ q < 21 * 21
    · rw [if_pos h2, if_pos h2]
    · rw [if_neg h2, if_neg h2]
      exact (if_neg h1).symm
theorem tb0_o {f : mj_F} {a q : Nat} (h1 : a ≠ 173) (h2 : a ≠ 174) : tb0 f a q = f a q := by
  unfold tb0 fillM
  rw [if_neg (fun z => h2 z.1), if_neg (fun z => h1 z.1)]
theorem tb0_z {f : mj_F} {c : Nat} (hc : c < 4) : tb0 f 173 c = 0 ∧ tb0 f 174 c = 0 := by
  unfold tb0 fillM
  constructor
  · rw [if_neg (fun z => absurd z.1 (by decide)), if_pos ⟨rfl, hc⟩]
  · rw [if_pos ⟨rfl, hc⟩]
theorem eOK_e {f g : mj_F} {p e : Nat} (h : ∀ k q, k ≤ 12 → g (p + k) q = f (p + k) q) (ho : eOK f p e) : eOK g p e := by
  obtain ⟨h1, ⟨l1, a1, a2, a3⟩, ⟨l2, b1, b2, b3⟩, h4, m, c1, c2, c3⟩ := ho
  have t : ∀ l, okT f p l → okT g p l := fun l q => okT_e (fun q => h 4 q (by omega)) (fun q => h 5 q (by omega)) q
  refine ⟨h1, ⟨l1, a1, ?_, t _ a3⟩, ⟨l2, b1, ?_, t _ b3⟩, t _ h4, m, c1, ?_, fun k hk => ?_⟩
  · rw [h 8 _ (by omega)]; exact a2
  · rw [h 9 _ (by omega)]; exact b2
  · rw [h 10 _ (by omega)]; exact c2
  · rw [h 11 _ (by omega)]; exact c3 k hk
theorem tkl_e {f g : mj_F} {p l mo : Nat} {G : Mt} (h : ∀ k q, k ≤ 12 → g (p + k) q = f (p + k) q) (h3 : ∀ q, g 173 q = f 173 q) (h4 : ∀ q, g 174 q = f 174 q) : tkl g p l mo G = tkl f p l mo G := by
  unfold tkl tkm tks
  rw [h 4 _ (by omega)]
  simp only [h 5 _ (by omega), h 6 _ (by omega), h 7 _ (by omega), h3, h4]
section TT
variable {sw : Bool} {w : mj_W}
theorem T_step (hw : wk sw w) {p : Nat} (hp : pn p) (f : mj_F) {e mo : Nat} (hmo : mo < 21) (hmo0 : 0 < mo) (ho : eOK f p e) (hs : okM f) (G : Mt) : mj_call yT_takeEdge w (sm 171 21 f G) [.inr (.inl 170), .inr (.inl p), .inl (e : Int), .inl (mo : Int)] = some (w, sm 171 21 (teF f p e mo) (teG f p e (f (p + 8) e).toNat (f (p + 9) e).toNat mo G), none) := by
  obtain ⟨h1, ⟨l1, a1, a2, a3⟩, ⟨l2, b1, b2, b3⟩, h4, h5⟩ := ho
  rw [a2, b2, Int.toNat_natCast, Int.toNat_natCast]
  exact T_takeEdge hw hp f h1 a1 b1 hmo hmo0 a2 b2 a3 h4 b3 h5 hs G
theorem tbI_eq {f g : mj_F} {p i : Nat} {G : Mt} {e : Nat} (he : f 169 i = (e : Int)) (h : ∀ k q, k ≤ 12 → g (p + k) q = f (p + k) q) : tbI f p i (g, G) = (teF g p e (i + 1), teG g p e (g (p + 8) e).toNat (g (p + 9) e).toNat (i + 1) G) := by
  unfold tbI
  rw [he, Int.toNat_natCast, h 8 _ (by omega), h 9 _ (by omega)]
theorem T_build (hw : wk sw w) {p : Nat} (hp : pn p) (f : mj_F) {L st : Nat} (hL : L ≤ 20) (hl : f 168 1 = (L : Int)) (hst : f p 4 = (st : Int)) (hs8 : st < 8) (os : okT f p st) (oe : ∀ i, i < L → ∃ e : Nat, f 169 i = (e : Int) ∧ eOK f p e) : mj_call yT_build w f [.inr (.inl 170), .inr (.inl p), .inr (.inl 168)] = some (w, mj_u (mj_u (mj_u (sm 171 21 (tbS f p L).1 (clr (L + 1) (L + 1) 0 (tbS f p L).2).2) 170 6 (clr (L + 1) (L + 1) 0 (tbS f p L).2).1) 170 4 0) 170 5 1, none) := by
  have hq1 : ∀ k, k ≤ 12 → p + k ≠ 171 := by
    intro k hk
    rcases hp with rfl | rfl <;> omega
  have hq3 : ∀ k, k ≤ 12 → p + k ≠ 173 := by
    intro k hk
    rcases hp with rfl | rfl <;> omega
  have hq4 : ∀ k, k ≤ 12 → p + k ≠ 174 := by
    intro k hk
    rcases hp with rfl | rfl <;> omega
  have e1 : mj_w ((L : Int) + 1) = ((L + 1 : Nat) : Int) := wS (by omega)
  rw [c_T_build hw _ p hp, A_fill hw _ (k_171 hw) (by omega), mj_bu_some, A_fill hw _ (k_173 hw) (by omega), mj_bu_some, A_fill hw _ (k_174 hw) (by omega), mj_bu_some, hl, e1, fill_sm, fill_smo (by decide), fill_smo (by decide)]
  have h0 : (fun _ _ => 268435456 : Mt) = dgI 0 := by
    funext i j
    unfold dgI
    rw [if_neg (by omega)]
  rw [h0]
  have hA := loop_st (fun k => mj_run yT_build w (sm 171 21 (tb0 f) (dgI k)) 35 [.inr (.inl 170), .inr (.inl p), .inr (.inl 168), .inl ((L + 1 : Nat) : Int), .inl (k : Int)] []) (Nat.zero_le (L + 1)) (fun k _ hk => by
    rw [l_T_build_35 hw _ p _ _ hp, if_neg (by omega), T_lower hw _ _ 1 (by omega) (by omega), mj_bu_some, dgI_S, wS (by omega)])
  have e2 : fillM (fillM f 173 4 0) 174 4 0 = tb0 f := rfl
  rw [e2]
  refine hA.trans ?_
  have ok0 : okM (tb0 f) := fun c hc => by rw [(tb0_z hc).1]; exact ⟨by decide, by decide⟩
  have ep : ∀ k q, k ≤ 12 → tb0 f (p + k) q = f (p + k) q := fun k q hk => tb0_o (hq3 k hk) (hq4 k hk)
  have ep0 : sm 171 21 (tb0 f) (dgI (L + 1)) p 4 = (st : Int) := by
    rw [sm_o (show p ≠ 171 from hq1 0 (by omega)), tb0_o (show p ≠ 173 from hq3 0 (by omega)) (show p ≠ 174 from hq4 0 (by omega))]
    exact hst
  rw [l_T_build_35 hw _ p _ _ hp, if_pos (by omega), ep0, X_stayRules hw, mj_bi_some]
  have t0 := T_keep hw hp (tb0 f) (l := st) (mo := 0) (by omega) (by omega) (okT_e (fun q => ep 4 q (by omega)) (fun q => ep 5 q (by omega)) os) ok0 (dgI (L + 1))
  rw [show ((0 : Nat) : Int) = 0 from rfl] at t0
  rw [t0, mj_bu_some]
  have hB := loop_itr (fun i (S : mj_F × Mt) => mj_run yT_build w (sm 171 21 S.1 S.2) 72 [.inr (.inl 170), .inr (.inl p), .inr (.inl 168), .inl ((L + 1 : Nat) : Int), .inl (i : Int)] []) (fun _ S => okM S.1 ∧ ∀ a q, a ≠ 173 → a ≠ 174 → S.1 a q = f a q) (fun i S => tbI f p i S) L (fun i S hi hP => by
    obtain ⟨g, G⟩ := S
    obtain ⟨e, he, ho⟩ := oe i hi
    have hpk : ∀ k q, k ≤ 12 → g (p + k) q = f (p + k) q := fun k q hk => hP.2 _ q (hq3 k hk) (hq4 k hk)
    have hg169 : g 169 i = (e : Int) := (hP.2 169 i (by decide) (by decide)).trans he
    have hg168 : g 168 1 = (L : Int) := (hP.2 168 1 (by decide) (by decide)).trans hl
    rw [tbI_eq he hpk]
    refine ⟨?_, ?_, fun a q h1 h2 => ?_⟩
    · show mj_run yT_build w (sm 171 21 g G) 72 _ _ = _
      rw [l_T_build_72 hw _ p _ _ hp, sm_o (by decide : (168 : Nat) ≠ 171), hg168, if_neg (by omega), mj_gd_pos ⟨by omega, by omega⟩, Int.toNat_natCast, sm_o (by decide : (169 : Nat) ≠ 171), hg169, wS (by omega), T_step hw hp g (by omega) (by omega) (eOK_e hpk ho) hP.1 G, mj_bu_some]
    · exact stM_ok (by omega) hP.1
    · show stM g p e (i + 1) _ a q = _
      rw [stM_o h1 h2]
      exact hP.2 a q h1 h2) (tb0 f, tkl (tb0 f) p st 0 (dgI (L + 1))) ⟨ok0, fun a q h1 h2 => tb0_o h1 h2⟩
  have e3 : itr L (fun i S => tbI f p i S) (tb0 f, tkl (tb0 f) p st 0 (dgI (L + 1))) = tbS f p L := by
    unfold tbS
    rw [hst, Int.toNat_natCast]
  rw [e3] at hB
  refine hB.1.trans ?_
  have hg168 : (tbS f p L).1 168 1 = (L : Int) := (hB.2.2 168 1 (by decide) (by decide)).trans hl
  rw [l_T_build_72 hw _ p _ _ hp, sm_o (by decide : (168 : Nat) ≠ 171), hg168, if_pos (by omega)]
  have t1 := X_closeCells (f := (tbS f p L).1) hw (S := 21) (a := 171) (n := L + 1) (by decide) (k_171 hw) (by omega) (tbS f p L).2
  rw [show ((21 : Nat) : Int) = 21 from rfl] at t1
  have h01 : ∀ d k C, (clr (L + 1) d k C).1 = 0 ∨ (clr (L + 1) d k C).1 = 1 := by
    intro d
    induction d with
    | zero => exact fun _ _ => Or.inr rfl
    | succ d ih =>
      intro k C
      unfold clr
      split
      · exact ih _ _
      · exact Or.inl rfl
  rw [t1, mj_bi_some, mj_gd_pos (h01 _ _ _)]
end TT
