/-! The reference's times of a trace, laid. -/
def zrF (f : mj_F) (k : Nat) : mj_F := fun a q => if (a = 255 ∨ a = 256) ∧ q < k then 0 else f a q
theorem zrF_o {f : mj_F} {k a q : Nat} (h5 : a ≠ 255) (h6 : a ≠ 256) : zrF f k a q = f a q := by
  unfold zrF
  rw [if_neg (fun z => z.1.elim h5 h6)]
theorem zrF_z {f : mj_F} {c : Nat} (hc : c < 4) : zrF f 4 255 c = 0 ∧ zrF f 4 256 c = 0 := by
  unfold zrF
  exact ⟨if_pos ⟨Or.inl rfl, hc⟩, if_pos ⟨Or.inr rfl, hc⟩⟩
theorem zrF_S {f : mj_F} {k : Nat} : mj_u (mj_u (zrF f k) 255 k 0) 256 k 0 = zrF f (k + 1) := by
  funext a q
  unfold mj_u zrF
  by_cases h6 : a = 256 ∧ q = k
  · rw [if_pos h6, if_pos ⟨Or.inr h6.1, by omega⟩]
  · rw [if_neg h6]
    by_cases h5 : a = 255 ∧ q = k
    · rw [if_pos h5, if_pos ⟨Or.inl h5.1, by omega⟩]
    · rw [if_neg h5]
      exact ifc (by omega) rfl rfl
def ltI (f : mj_F) (r1 x2 i : Nat) (S : mj_F × (Int × Mt) × Nat) : mj_F × (Int × Mt) × Nat := (ltF S.1 (f r1 (x2 + i)).toNat i, ltQ S.1 (f r1 (x2 + i)).toNat S.2.2 (f 229 (f r1 (x2 + i)).toNat).toNat i S.2.1, (f 229 (f r1 (x2 + i)).toNat).toNat)
def lt0 (f : mj_F) (many st : Nat) : mj_F × (Int × Mt) × Nat := (zrF f 4, hol (zrF f 4) st 0 (0, sqn (many + 1) wdM (gm 252 62 f)), st)
def ltS (f : mj_F) (r1 x2 many st L : Nat) : mj_F × (Int × Mt) × Nat := itr L (fun i S => ltI f r1 x2 i S) (lt0 f many st)
def mOK (f : mj_F) (e : Nat) : Prop := e < 16 ∧ (∃ p : Nat, p < 8 ∧ f 229 e = (p : Int) ∧ mkT f p) ∧ mkT f (8 + e) ∧ mkE f e
def ltP (f : mj_F) (S : mj_F × (Int × Mt) × Nat) : Prop := mkM S.1 ∧ (∀ a q, a ≠ 255 → a ≠ 256 → a ≠ 257 → a ≠ 258 → S.1 a q = f a q) ∧ (S.2.1.1 = 0 ∨ S.2.1.1 = 1) ∧ S.2.2 < 8 ∧ mkT f S.2.2
section RT
variable {sw : Bool} {w : mj_W}
theorem L14 (hw : wk sw w) (f : mj_F) {r1 nr : Nat} (hr1 : w.1 r1 = (100, nr)) (n v : Int) (A : Mt) (x2 x3 : Int) : ∀ k, k ≤ 4 → mj_run yM_laysTimes w (rq f n v A) 14 [.inr (.inl 223), .inr (.inl r1), .inl x2, .inl x3, .inl 0, .inr (.inr (.inr 0)), .inr (.inr (.inr 0)), .inr (.inr (.inr 0)), .inr (.inr (.inr 0))] [] = mj_run yM_laysTimes w (rq (zrF f k) n v A) 14 [.inr (.inl 223), .inr (.inl r1), .inl x2, .inl x3, .inl (k : Int), .inr (.inr (.inr 0)), .inr (.inr (.inr 0)), .inr (.inr (.inr 0)), .inr (.inr (.inr 0))] [] := by
  intro k
  induction k with
  | zero =>
    intro _
    have e0 : zrF f 0 = f := by
      funext a q
      unfold zrF
      rw [if_neg (by omega)]
    rw [e0]
    rfl
  | succ k ih =>
    intro hk
    refine (ih (by omega)).trans ((l_M_laysTimes_14 hw _ r1 nr _ _ _ hr1).trans ((if_neg (nle (n := 4) hk)).trans ?_))
    rw [mj_gd_pos (gN hk), mj_gd_pos (gN hk), Int.toNat_natCast, rq_u (by decide) (by decide), rq_u (by decide) (by decide), zrF_S, wS (by omega)]
theorem ltP_S {f : mj_F} {r1 x2 i : Nat} {S : mj_F × (Int × Mt) × Nat} (hi : i + 1 < 62) {e : Nat} (he : f r1 (x2 + i) = (e : Int)) (ho : mOK f e) (h : ltP f S) : ltP f (ltI f r1 x2 i S) := by
  obtain ⟨h1, h2, h3, h4, h5⟩ := h
  obtain ⟨a1, ⟨p', a2, a3, a4⟩, a5, a6⟩ := ho
  have ep : (f 229 (f r1 (x2 + i)).toNat).toNat = p' := by rw [he, Int.toNat_natCast, a3, Int.toNat_natCast]
  refine ⟨ltF_ok hi h1, fun a q b5 b6 b7 b8 => (ltF_o b5 b6 b7 b8).trans (h2 a q b5 b6 b7 b8), ltQ_01 h3, ?_, ?_⟩
  · show (f 229 (f r1 (x2 + i)).toNat).toNat < 8
    rw [ep]; exact a2
  · show mkT f (f 229 (f r1 (x2 + i)).toNat).toNat
    rw [ep]; exact a4
theorem R_laysTimes (hw : wk sw w) (f : mj_F) {r1 nr : Nat} (hr1 : w.1 r1 = (100, nr)) (hr : r1 ≠ 223 ∧ r1 ≠ 252) (hr5 : r1 ≠ 255 ∧ r1 ≠ 256 ∧ r1 ≠ 257 ∧ r1 ≠ 258) {x2 many st : Nat} (hx : x2 + many ≤ nr) (hnr : nr ≤ 125) (hmany : many ≤ 59) (hst : f 223 5 = (st : Int)) (hs8 : st < 8) (os : mkT f st) (oe : ∀ i, i < many → ∃ e : Nat, f r1 (x2 + i) = (e : Int) ∧ mOK f e) : mj_call yM_laysTimes w f [.inr (.inl 223), .inr (.inl r1), .inl (x2 : Int), .inl (many : Int)] = some (w, rq (ltS f r1 x2 many st many).1 ((many + 1 : Nat) : Int) (rcl (many + 1) (ltS f r1 x2 many st many).2.1).1 (rcl (many + 1) (ltS f r1 x2 many st many).2.1).2, none) ∧ ltP f (ltS f r1 x2 many st many) := by
  have em : mj_u f 223 52 ((many + 1 : Nat) : Int) = rq f ((many + 1 : Nat) : Int) (f 223 53) (gm 252 62 f) := by
    rw [← rq_mem, mu_same (u_o (Or.inr (by decide)))]
  have hz : mkM (zrF f 4) := fun c hc => by rw [(zrF_z hc).1]; exact ⟨by decide, by decide⟩
  have hP0 : ltP f (lt0 f many st) := ⟨hz, fun a q h5 h6 _ _ => zrF_o h5 h6, hol_01 (Or.inl rfl), hs8, os⟩
  have hP : ∀ L, L ≤ many → ltP f (ltS f r1 x2 many st L) := by
    intro L
    induction L with
    | zero => exact fun _ => hP0
    | succ L ih =>
      intro hL
      obtain ⟨e, he, ho⟩ := oe L hL
      exact ltP_S (by omega) he ho (ih (by omega))
  refine ⟨?_, hP many (Nat.le_refl many)⟩
  rw [c_M_laysTimes hw _ r1 nr _ _ hr1, wS (by omega), em, R_wide hw f (by omega : many + 1 ≤ 61), mj_bu_some]
  refine (L14 hw f hr1 _ 0 _ _ _ 4 (Nat.le_refl 4)).trans ((l_M_laysTimes_14 hw _ r1 nr _ _ _ hr1).trans ((if_pos (Int.le_refl 4)).trans ?_))
  have r5 : ∀ v A, rq (zrF f 4) ((many + 1 : Nat) : Int) v A 223 5 = (st : Int) := fun v A => (rq_f (by decide) (by decide)).trans ((zrF_o (by decide) (by decide)).trans hst)
  have t1 := R_hold hw (zrF f 4) ((many + 1 : Nat) : Int) (show st < 24 by omega) (show 0 < 62 by decide) (mkT_e (fun z => zrF_o (by decide) (by decide)) (fun z => zrF_o (by decide) (by decide)) os) hz (0, sqn (many + 1) wdM (gm 252 62 f)) (Or.inl rfl)
  rw [show ((0 : Nat) : Int) = 0 from rfl] at t1
  dsimp only at t1
  rw [r5, t1, mj_bu_some, r5]
  have key : ∀ i, i ≤ many → ∃ v6 v7 v8 : mj_V, mj_run yM_laysTimes w (rq (lt0 f many st).1 ((many + 1 : Nat) : Int) (lt0 f many st).2.1.1 (lt0 f many st).2.1.2) 60 [.inr (.inl 223), .inr (.inl r1), .inl (x2 : Int), .inl (many : Int), .inl (st : Int), .inl 0, .inr (.inr (.inr 0)), .inr (.inr (.inr 0)), .inr (.inr (.inr 0))] [] = mj_run yM_laysTimes w (rq (ltS f r1 x2 many st i).1 ((many + 1 : Nat) : Int) (ltS f r1 x2 many st i).2.1.1 (ltS f r1 x2 many st i).2.1.2) 60 [.inr (.inl 223), .inr (.inl r1), .inl (x2 : Int), .inl (many : Int), .inl ((ltS f r1 x2 many st i).2.2 : Int), .inl (i : Int), v6, v7, v8] [] := by
    intro i
    induction i with
    | zero => exact fun _ => ⟨_, _, _, rfl⟩
    | succ i ih =>
      intro hi
      obtain ⟨v6, v7, v8, h⟩ := ih (by omega)
      obtain ⟨e, he, a1, ⟨p', a2, a3, a4⟩, a5, a6⟩ := oe i hi
      obtain ⟨h1, h2, h3, h4, h5⟩ := hP i (by omega)
      have es : ltS f r1 x2 many st (i + 1) = ltI f r1 x2 i (ltS f r1 x2 many st i) := rfl
      have ei : ltI f r1 x2 i (ltS f r1 x2 many st i) = (ltF (ltS f r1 x2 many st i).1 e i, ltQ (ltS f r1 x2 many st i).1 e (ltS f r1 x2 many st i).2.2 p' i (ltS f r1 x2 many st i).2.1, p') := by
        unfold ltI
        rw [he, Int.toNat_natCast, a3, Int.toNat_natCast]
      rw [es, ei]
      generalize ltS f r1 x2 many st i = S at h h1 h2 h3 h4 h5 ⊢
      have g4 : ∀ z, S.1 224 z = f 224 z := fun z => h2 224 z (by decide) (by decide) (by decide) (by decide)
      have g5 : ∀ z, S.1 225 z = f 225 z := fun z => h2 225 z (by decide) (by decide) (by decide) (by decide)
      have oE : mkE S.1 e := by
        obtain ⟨m, b1, b2, b3⟩ := a6
        refine ⟨m, b1, (h2 230 e (by decide) (by decide) (by decide) (by decide)).trans b2, fun k hk => ?_⟩
        rw [h2 231 _ (by decide) (by decide) (by decide) (by decide)]
        exact b3 k hk
      obtain ⟨w6, w7, w8', h'⟩ := L60 hw S.1 hr1 hr ((many + 1 : Nat) : Int) (x2 := x2) (many := many) (i := i) (e := e) (p := S.2.2) (p' := p') (by omega) hnr hi hmany a1 h4 a2 ((h2 r1 _ hr5.1 hr5.2.1 hr5.2.2.1 hr5.2.2.2).trans he) ((h2 229 e (by decide) (by decide) (by decide) (by decide)).trans a3) (mkT_e g4 g5 h5) (mkT_e g4 g5 a5) (mkT_e g4 g5 a4) oE h1 S.2.1 h3 v6 v7 v8
      exact ⟨w6, w7, w8', h.trans h'⟩
  obtain ⟨v6, v7, v8, h⟩ := key many (Nat.le_refl many)
  refine h.trans ((l_M_laysTimes_60 hw _ r1 nr _ _ _ _ _ _ _ hr1).trans ((if_pos (Int.le_refl _)).trans ?_))
  rw [R_closes hw _ (by omega : many + 1 ≤ 61) _ (hP many (Nat.le_refl many)).2.2.1, mj_bu_some]
end RT
