/-! The reference's times of a trace: one edge of it. -/
theorem wXI {x i : Nat} (h : x + i < 1000) : mj_w ((x : Int) + (i : Int)) = ((x + i : Nat) : Int) := by unfold mj_w; omega
theorem wP {i : Nat} (h : i < 1000) : mj_w (((i + 1 : Nat) : Int) - 1) = (i : Int) := by unfold mj_w; omega
theorem hol_01 {f : mj_F} {l at_ : Nat} {q : Int × Mt} (h : q.1 = 0 ∨ q.1 = 1) : (hol f l at_ q).1 = 0 ∨ (hol f l at_ q).1 = 1 := hom_01 h
/-- one edge more: memory, flag and square, place -/
def ltF (F : mj_F) (e i : Nat) : mj_F := srF (svF F i 4) e (i + 1) (F 230 e).toNat
def ltQ (F : mj_F) (e p p' i : Nat) (q : Int × Mt) : Int × Mt := hol (ltF F e i) p' (i + 1) (hol (svF F i 4) (8 + e) (i + 1) (hol (svF F i 4) p (i + 1) (q.1, tg q.2 i (i + 1) 1)))
theorem ltQ_01 {F : mj_F} {e p p' i : Nat} {q : Int × Mt} (h : q.1 = 0 ∨ q.1 = 1) : (ltQ F e p p' i q).1 = 0 ∨ (ltQ F e p p' i q).1 = 1 := hol_01 (hol_01 (hol_01 h))
theorem ltF_o {F : mj_F} {e i a q : Nat} (h5 : a ≠ 255) (h6 : a ≠ 256) (h7 : a ≠ 257) (h8 : a ≠ 258) : ltF F e i a q = F a q := by
  unfold ltF
  rw [srF_o h5 h6, svF_o h7 h8]
theorem svF_ok {F : mj_F} {i k : Nat} (h : mkM F) : mkM (svF F i k) := fun c hc => by
  rw [svF_o (by decide) (by decide)]
  exact h c hc
theorem ltF_ok {F : mj_F} {e i : Nat} (hi : i + 1 < 62) (h : mkM F) : mkM (ltF F e i) := srF_ok hi (svF_ok h)
section RT
variable {sw : Bool} {w : mj_W}
theorem L60 (hw : wk sw w) (F : mj_F) {r1 nr : Nat} (hr1 : w.1 r1 = (100, nr)) (hr : r1 ≠ 223 ∧ r1 ≠ 252) (n : Int) {x2 many i e p p' : Nat} (hx : x2 + i < nr) (hnr : nr ≤ 125) (hi : i < many) (hmany : many ≤ 59) (he : e < 16) (hp : p < 8) (hp' : p' < 8) (hFe : F r1 (x2 + i) = (e : Int)) (hto : F 229 e = (p' : Int)) (o1 : mkT F p) (o2 : mkT F (8 + e)) (o3 : mkT F p') (oe : mkE F e) (hs : mkM F) (q : Int × Mt) (hv : q.1 = 0 ∨ q.1 = 1) (u6 u7 u8 : mj_V) : ∃ v6 v7 v8 : mj_V, mj_run yM_laysTimes w (rq F n q.1 q.2) 60 [.inr (.inl 223), .inr (.inl r1), .inl (x2 : Int), .inl (many : Int), .inl (p : Int), .inl (i : Int), u6, u7, u8] [] = mj_run yM_laysTimes w (rq (ltF F e i) n (ltQ F e p p' i q).1 (ltQ F e p p' i q).2) 60 [.inr (.inl 223), .inr (.inl r1), .inl (x2 : Int), .inl (many : Int), .inl (p' : Int), .inl ((i + 1 : Nat) : Int), v6, v7, v8] [] := by
  obtain ⟨m, m4, hm, hc⟩ := oe
  have hi60 : i < 60 := by omega
  have hi62 : i + 1 < 62 := by omega
  have hx1 : x2 + i < 1000 := by omega
  refine ⟨.inl (e : Int), .inl ((i + 1 : Nat) : Int), .inl ((4 * e + m : Nat) : Int), (l_M_laysTimes_60 hw _ r1 nr _ _ _ _ _ _ _ hr1).trans ((if_neg (nle hi)).trans ?_)⟩
  rw [wXI hx1, mj_gd_pos (gN hx), wS (by omega), wP (by omega), R_tight hw F n q.1 q.2 1 (by omega) (by omega), mj_bu_some, Int.toNat_natCast, rq_r hr, hFe]
  refine (L94 hw F hr1 n q.1 (tg q.2 i (i + 1) 1) _ _ _ _ _ hi60 4 (Nat.le_refl 4)).trans ((l_M_laysTimes_94 hw _ r1 nr _ _ _ _ _ _ _ hr1).trans ((if_pos (Int.le_refl 4)).trans ?_))
  have t1 := R_hold hw (svF F i 4) n (show p < 24 by omega) hi62 (mkT_e (fun z => svF_o (by decide) (by decide)) (fun z => svF_o (by decide) (by decide)) o1) (svF_ok hs) (q.1, tg q.2 i (i + 1) 1) hv
  dsimp only at t1
  rw [t1, mj_bu_some, w8 he]
  have h1 : (hol (svF F i 4) p (i + 1) (q.1, tg q.2 i (i + 1) 1)).1 = 0 ∨ (hol (svF F i 4) p (i + 1) (q.1, tg q.2 i (i + 1) 1)).1 = 1 := hol_01 hv
  have t2 := R_hold hw (svF F i 4) n (show 8 + e < 24 by omega) hi62 (mkT_e (fun z => svF_o (by decide) (by decide)) (fun z => svF_o (by decide) (by decide)) o2) (svF_ok hs) (hol (svF F i 4) p (i + 1) (q.1, tg q.2 i (i + 1) 1)) h1
  rw [t2, mj_bu_some, w4e he]
  have h2 : (hol (svF F i 4) (8 + e) (i + 1) (hol (svF F i 4) p (i + 1) (q.1, tg q.2 i (i + 1) 1))).1 = 0 ∨ (hol (svF F i 4) (8 + e) (i + 1) (hol (svF F i 4) p (i + 1) (q.1, tg q.2 i (i + 1) 1))).1 = 1 := hol_01 h1
  have s230 : svF F i 4 230 e = (m : Int) := (svF_o (by decide) (by decide)).trans hm
  have s231 : ∀ k, k < m → 0 ≤ svF F i 4 231 (4 * e + k) ∧ svF F i 4 231 (4 * e + k) < 4 := fun k hk => by
    rw [svF_o (by decide) (by decide)]
    exact hc k hk
  refine (L169 hw (svF F i 4) hr1 n _ _ _ _ _ _ he m4 s230 s231 m (Nat.le_refl m)).trans ((l_M_laysTimes_169 hw _ r1 nr _ _ _ _ _ _ _ hr1).trans ?_)
  have eF : srF (svF F i 4) e (i + 1) m = ltF F e i := by
    unfold ltF
    rw [hm, Int.toNat_natCast]
  rw [eF]
  have a230 : ∀ z v A, rq (ltF F e i) n v A 230 z = F 230 z := fun z v A => (rq_r ⟨by decide, by decide⟩).trans (ltF_o (by decide) (by decide) (by decide) (by decide))
  have a229 : ∀ z v A, rq (ltF F e i) n v A 229 z = F 229 z := fun z v A => (rq_r ⟨by decide, by decide⟩).trans (ltF_o (by decide) (by decide) (by decide) (by decide))
  have t3 := R_hold hw (ltF F e i) n (show p' < 24 by omega) hi62 (mkT_e (fun z => ltF_o (by decide) (by decide) (by decide) (by decide)) (fun z => ltF_o (by decide) (by decide) (by decide) (by decide)) o3) (ltF_ok hi62 hs) (hol (svF F i 4) (8 + e) (i + 1) (hol (svF F i 4) p (i + 1) (q.1, tg q.2 i (i + 1) 1))) h2
  simp only [mj_gd_pos (gN he), Int.toNat_natCast, a230, a229, hm, hto, w4m he m4]
  refine (if_pos (Int.le_refl _)).trans ?_
  rw [t3, mj_bu_some, wS (by omega)]
  rfl
end RT
