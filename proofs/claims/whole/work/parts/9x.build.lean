/-! All nodes, in both. -/
section BL
variable {sw sw' : Bool} {w w' : mj_W}
/-- sixty nodes: the reference goes on and finds nothing more -/
theorem R_full (hw : wk sw w) (hw' : wk sw' w') {H f : mj_F} {c np ne st : Nat} (ra : RA sw H c np ne st) : ∀ (d k e : Nat) (g : mj_F), 17 * (60 - k) + (16 - e) ≤ d → k < 60 → e ≤ ne → PH sw H f g → BK H f g c np ne st 60 → ∃ g' : mj_F, mj_run yM_explores w' g 53 [.inr (.inl 223), .inl (k : Int), .inl (e : Int)] [] = some (w', g', none) ∧ BK H f g' c np ne st 60 ∧ MB g g' := by
  have he16 := ra.1.2.2.1
  have hc4 := ra.1.1
  have me := ra.2.1.2.2.2.2.2.2.1
  intro d
  induction d with
  | zero => intro k e g h1 h2 h3; omega
  | succ d ih =>
    intro k e g h1 h2 h3 ph bk
    have eg4 : g 223 4 = (ne : Int) := (ph.2.2 4 (by omega) (by omega)).trans me
    have eg23 : g 223 23 = ((60 : Nat) : Int) := bk.2.2.1
    by_cases hend : e = ne
    · rw [l_M_explores_53 hw', eg4, if_pos (by omega), wS (by omega), l_M_explores_43 hw', eg23]
      by_cases hk : k + 1 = 60
      · rw [if_pos (by omega)]
        exact ⟨g, rfl, bk, fun _ _ _ _ _ => rfl⟩
      · rw [if_neg (by omega)]
        exact ih (k + 1) 0 g (by omega) (by omega) (by omega) ph bk
    · have eg8 : g 228 = H 228 := ph.2.1 228 (by omega) (by omega)
      by_cases hfr : H 228 e = g 236 k
      · obtain ⟨l, q, r, hl, q3, q4, eq, T2, er⟩ := R_body hw' ra ph bk h2 (by omega) hfr
        have h01 := TS_01 T2
        have next : ∀ (n v : Int) (A : Mt), ∃ g' : mj_F, mj_run yM_explores w' (rq g n v A) 53 [.inr (.inl 223), .inl (k : Int), .inl ((e + 1 : Nat) : Int)] [] = some (w', g', none) ∧ BK H f g' c np ne st 60 ∧ MB g g' := fun n v A => by
          obtain ⟨g', a1, a2, a4⟩ := ih k (e + 1) (rq g n v A) (by omega) h2 (by omega) (PH_f ph (fun _ _ _ => rfl) MB_q) (BK_g bk)
          exact ⟨g', a1, a2, MB_t MB_q a4⟩
        rw [er]
        rcases h01.1 with y0 | y1
        rotate_left
        · rw [if_pos (by omega)]
          exact next _ _ _
        have y0' : r.1 = 0 := h01.2.2.symm.trans y0
        have T3 : TS (c + 1) 802 (0, q.2) (0, r.2) := by
          rw [show q = (0, q.2) from Prod.ext y0 rfl, show r = (0, r.2) from Prod.ext y0' rfl] at T2
          exact T2
        obtain ⟨v, k1, k2⟩ := known_both hw hw' hc4 bk T3 (l : Int)
        rw [if_neg (fun z => z y0'), y0', k2, mj_bi_some]
        by_cases hv : v = 0
        · have e60 : rq g ((c + 1 : Nat) : Int) 0 r.2 223 23 = 60 := by rw [rq_f (by decide) (by decide)]; exact eg23
          rw [if_pos hv, e60, if_neg (fun z => z rfl)]
          exact ⟨_, rfl, BK_g bk, MB_q⟩
        · rw [if_neg hv]
          exact next _ _ _
      · rw [l_M_explores_53 hw', eg4, if_neg (by omega), mj_gd_pos (by omega), mj_gd_pos (by omega), Int.toNat_natCast, Int.toNat_natCast, eg8, if_neg hfr, wS (by omega)]
        exact ih k (e + 1) g (by omega) h2 (by omega) ph bk
/-- how the making of nodes goes on -/
def BE (H : mj_F) (c np ne st : Nat) (w w' : mj_W) (f g : mj_F) (X M : Option mj_O) : Prop := ∃ (f' g' : mj_F) (N' : Nat), X = some (w, f', none) ∧ M = some (w', g', none) ∧ BK H f' g' c np ne st N' ∧ CB f f' ∧ MB g g'
theorem BE_t {H : mj_F} {c np ne st : Nat} {f g f' g' : mj_F} {X M : Option mj_O} (a : CB f f') (b : MB g g') (h : BE H c np ne st w w' f' g' X M) : BE H c np ne st w w' f g X M := by
  obtain ⟨f1, g1, N', h1, h2, h3, h4, h5⟩ := h
  exact ⟨f1, g1, N', h1, h2, h3, CB_t a h4, MB_t b h5⟩
/-- from an edge of a node on -/
theorem build_from (hw : wk sw w) (hw' : wk sw' w') {H : mj_F} {c np ne st : Nat} (ra : RA sw H c np ne st) : ∀ (d k e N : Nat) (f g : mj_F), 17 * (60 - k) + (16 - e) ≤ d → k < N → e ≤ ne → PH sw H f g → BK H f g c np ne st N → BE H c np ne st w w' f g (mj_run yG_build w f 92 [.inr (.inl 37), .inr (.inl (pl sw)), .inl (k : Int), .inl (e : Int)] []) (mj_run yM_explores w' g 53 [.inr (.inl 223), .inl (k : Int), .inl (e : Int)] []) := by
  have he16 := ra.1.2.2.1
  have xe := ra.2.1.2.2.2.2.2.1
  have me := ra.2.1.2.2.2.2.2.2.1
  have hp := pl_o sw
  intro d
  induction d with
  | zero => intro k e N f g h1 h2 h3 ph bk; have := bk.1; omega
  | succ d ih =>
    intro k e N f g h1 h2 h3 ph bk
    have hN := bk.1
    have eg4 : g 223 4 = (ne : Int) := (ph.2.2 4 (by omega) (by omega)).trans me
    have ef3 : f (pl sw) 3 = (ne : Int) := by
      have := ph.1 0 (by omega)
      rw [Nat.add_zero] at this
      rw [this]; exact xe
    have e23 : g 223 23 = (N : Int) := bk.2.2.1
    have e37 : f 37 9 = (N : Int) := bk.2.1
    by_cases h60 : N = 60
    · subst h60
      obtain ⟨g', a1, a2, a4⟩ := R_full hw hw' ra _ k e g (Nat.le_refl _) h2 h3 ph bk
      refine ⟨f, g', 60, ?_, a1, a2, fun _ _ _ => rfl, a4⟩
      have e73 : mj_run yG_build w f 73 [.inr (.inl 37), .inr (.inl (pl sw)), .inl ((k + 1 : Nat) : Int), .inl (e : Int)] [] = some (w, f, none) := by
        rw [l_G_build_73 hw _ _ _ _ (pl_pn sw), e37]
        by_cases z : ((60 : Nat) : Int) ≤ ((k + 1 : Nat) : Int)
        · rw [if_pos z]
        · rw [if_neg z, if_pos (by omega)]
      rw [l_G_build_92 hw _ _ _ _ (pl_pn sw), ef3, e37, wS (by omega), e73]
      by_cases z : (ne : Int) ≤ (e : Int)
      · rw [if_pos z]
      · rw [if_neg z, if_pos (by omega)]
    by_cases hend : e = ne
    · rw [l_G_build_92 hw _ _ _ _ (pl_pn sw), l_M_explores_53 hw', ef3, eg4, if_pos (by omega), if_pos (by omega), wS (by omega), l_G_build_73 hw _ _ _ _ (pl_pn sw), l_M_explores_43 hw', e37, e23]
      by_cases hk : k + 1 = N
      · rw [if_pos (by omega), if_pos (by omega)]
        exact ⟨f, g, N, rfl, rfl, bk, fun _ _ _ => rfl, fun _ _ _ _ _ => rfl⟩
      · rw [if_neg (by omega), if_neg (by omega), if_neg (by omega)]
        exact ih (k + 1) 0 N f g (by omega) (by omega) (by omega) ph bk
    · obtain ⟨pa, n1, n2, n3⟩ := (bk.2.2.2.1 k h2).1
      obtain ⟨se, ss, a, l, ha, hl, q1, q2, q3, q4⟩ := ra.2.2.2.1 e (by omega)
      have ef8 : f (pl sw + 8) e = (a : Int) := by rw [ph.1 8 (by omega)]; exact q1
      have eg8 : g 228 e = (a : Int) := by rw [ph.2.1 228 (by omega) (by omega)]; exact q2
      by_cases hfr : (a : Int) = (pa : Int)
      · obtain ⟨f', g', N', a1, a2, a3, a4, a5, a6⟩ := grow_both hw hw' ra ph bk (by omega) h2 (by omega) (show H 228 e = g 236 k by rw [q2, n3]; exact hfr)
        rw [a2, l_G_build_92 hw _ _ _ _ (pl_pn sw), ef3, e37, if_neg (by omega), if_neg (by omega), mj_gd_pos (by omega), mj_gd_pos (by omega), Int.toNat_natCast, Int.toNat_natCast, ef8, n2, if_neg (fun z => z hfr), a1, mj_bu_some, wS (by omega)]
        exact BE_t a5 a6 (ih k (e + 1) N' f' g' (by omega) (by omega) (by omega) (PH_f ph a5 a6) a4)
      · have ge : (0 : Int) ≤ (e : Int) ∧ (e : Int) < ((16 : Nat) : Int) := ⟨by omega, by omega⟩
        have gk : (0 : Int) ≤ (k : Int) ∧ (k : Int) < ((60 : Nat) : Int) := ⟨by omega, by omega⟩
        rw [l_G_build_92 hw _ _ _ _ (pl_pn sw), ef3, e37, if_neg (show ¬ (ne : Int) ≤ (e : Int) by omega), if_neg (show ¬ (60 : Int) ≤ (N : Int) by omega), mj_gd_pos ge, mj_gd_pos gk, Int.toNat_natCast, Int.toNat_natCast, ef8, n2, if_pos hfr, l_M_explores_53 hw', eg4, if_neg (show ¬ (ne : Int) ≤ (e : Int) by omega), mj_gd_pos ge, mj_gd_pos gk, Int.toNat_natCast, Int.toNat_natCast, eg8, n3, if_neg hfr, wS (by omega)]
        exact ih k (e + 1) N f g (by omega) h2 (by omega) ph bk
/-- all nodes -/
theorem build_both (hw : wk sw w) (hw' : wk sw' w') {H f g : mj_F} {c np ne st : Nat} (ra : RA sw H c np ne st) (hst : st < np) (ph : PH sw H f g) : BE H c np ne st w w' f g (mj_call yG_build w f [.inr (.inl 37), .inr (.inl (pl sw))]) (mj_call yM_explores w' g [.inr (.inl 223)]) := by
  obtain ⟨⟨hc4, hn8, he16, _, _⟩, ⟨_, xc, mc, xp, mp, xe, me, xs, ms⟩, hL, hE, h0, hg⟩ := id ra
  have hp := pl_o sw
  have ep : ∀ q, f (pl sw) q = H (pl sw) q := fun q => by
    have := ph.1 0 (by omega)
    rw [Nat.add_zero] at this
    rw [this]
  obtain ⟨f0, hf0⟩ : ∃ f0, f0 = fillM (mj_u f 37 9 0) 44 8 (-2) := ⟨_, rfl⟩
  have c0 : CB f f0 := fun a q h => by rw [hf0, fill_o (by omega), u_o (by omega)]
  obtain ⟨g0, hg0⟩ : ∃ g0, g0 = mj_u g 223 23 0 := ⟨_, rfl⟩
  have m0 : MB g g0 := fun a q h1 h2 h3 => by rw [hg0, u_o (by omega)]
  have ph0 := PH_f ph c0 m0
  have fp : ∀ q, f0 (pl sw) q = H (pl sw) q := fun q => by rw [c0 _ _ (by omega)]; exact ep q
  have bk0 : BK H f0 g0 c np ne st 0 := by
    refine ⟨by omega, ?_, ?_, fun k hk => absurd hk (by omega), fun a ha => Or.inl ⟨?_, fun k hk => absurd hk (by omega)⟩⟩
    · rw [hf0, fill_o (by decide), u_self]; rfl
    · rw [hg0, u_self]; rfl
    · rw [hf0, fill_in (by omega)]
  have eg2 : g0 223 2 = (c : Int) := by rw [m0 _ _ (by omega) (by omega) (by omega)]; exact (ph.2.2 2 (by omega) (by omega)).trans mc
  have eg5 : g0 223 5 = (st : Int) := by rw [m0 _ _ (by omega) (by omega) (by omega)]; exact (ph.2.2 5 (by omega) (by omega)).trans ms
  have T0 : TS (c + 1) 102 (0, fun _ _ => 1) (0, sqn (c + 1) (fun _ _ => 1) (gm 252 62 g0)) := TS_zero (by decide) (fun i j hi hj => sqn_in hi hj)
  have hb1 := bm5 (M := 102) (by decide) (show c + 1 ≤ 5 by omega)
  have hb2 := bm5 (M := bm 102 (c + 1)) (by unfold bm; omega) (show c + 1 ≤ 5 by omega)
  have T1 := TS_wait (hL st hst) (M := 102) (by decide) (by omega) T0
  have T2 := TS_rg ra (show bm (bm 102 (c + 1)) (c + 1) ≤ 1000000 by omega) T1
  have v1 := (TS_01 T1).2.1
  have h01 := TS_01 T2
  have ef : mj_call yG_build w f [.inr (.inl 37), .inr (.inl (pl sw))] = if (rgC H (pl sw) (c + 1) (zwt H (pl sw) (c + 1) st (0, fun _ _ => 1))).1 = 0 then mj_bu (mj_call yG_append w (zs 46 f0 ((c + 1 : Nat) : Int) (rgC H (pl sw) (c + 1) (zwt H (pl sw) (c + 1) st (0, fun _ _ => 1))).1 (rgC H (pl sw) (c + 1) (zwt H (pl sw) (c + 1) st (0, fun _ _ => 1))).2) [.inr (.inl 37), .inl (st : Int), .inl (-2), .inl (-2), .inl 0]) (fun f5 => mj_run yG_build w f5 73 [.inr (.inl 37), .inr (.inl (pl sw)), .inl 0, .inr (.inr (.inr 0))] []) else some (w, zs 46 f0 ((c + 1 : Nat) : Int) (rgC H (pl sw) (c + 1) (zwt H (pl sw) (c + 1) st (0, fun _ _ => 1))).1 (rgC H (pl sw) (c + 1) (zwt H (pl sw) (c + 1) st (0, fun _ _ => 1))).2, none) := by
    have z4 : ∀ n v C, zs 46 f0 n v C (pl sw) 4 = (st : Int) := fun n v C => by rw [zs_o (by omega) (by omega), fp]; exact xs
    rw [c_G_build hw _ _ (pl_pn sw), A_fill hw _ (k_44 hw) (by decide), mj_bu_some, ← hf0, fp, xc, wS (by omega), Z_layZero hw zn46, mj_bu_some, z4, Z_waitIn hw zn46 (pl_pn sw) f0 (n := c + 1) (l := st) (by omega) (by omega) (by omega) (okr_c ph0.1 (sL_okr (by omega) (hL st hst)).1) (0, fun _ _ => 1), mj_bu_some, zwt_c ph0.1, Z_roughen hw zn46 (pl_pn sw) f0 (by omega), zrg_c ph0.1]
    have e2 : ∀ X : Int × Mt, (if X.1 = 0 then some (w, zs 46 f0 ((c + 1 : Nat) : Int) (zcl (c + 1) X.1 (zrg H (pl sw) (c + 1) (c + 1) 0 X.2)).1 (zcl (c + 1) X.1 (zrg H (pl sw) (c + 1) (c + 1) 0 X.2)).2, (none : Option mj_V)) else some (w, zs 46 f0 ((c + 1 : Nat) : Int) X.1 X.2, none)) = some (w, zs 46 f0 ((c + 1 : Nat) : Int) (rgC H (pl sw) (c + 1) X).1 (rgC H (pl sw) (c + 1) X).2, none) := fun X => by
      unfold rgC
      split <;> rfl
    rw [e2, mj_bu_some, zs_v, z4]
  have er : mj_call yM_explores w' g [.inr (.inl 223)] = if (rgR H (c + 1) (rwt H (c + 1) st (0, sqn (c + 1) (fun _ _ => 1) (gm 252 62 g0)))).1 = 0 then mj_bu (mj_call yM_adds w' (rq g0 ((c + 1 : Nat) : Int) (rgR H (c + 1) (rwt H (c + 1) st (0, sqn (c + 1) (fun _ _ => 1) (gm 252 62 g0)))).1 (rgR H (c + 1) (rwt H (c + 1) st (0, sqn (c + 1) (fun _ _ => 1) (gm 252 62 g0)))).2) [.inr (.inl 223), .inl (st : Int), .inl (-2), .inl (-2)]) (fun f4 => mj_run yM_explores w' f4 43 [.inr (.inl 223), .inl 0, .inr (.inr (.inr 0))] []) else some (w', rq g0 ((c + 1 : Nat) : Int) (rgR H (c + 1) (rwt H (c + 1) st (0, sqn (c + 1) (fun _ _ => 1) (gm 252 62 g0)))).1 (rgR H (c + 1) (rwt H (c + 1) st (0, sqn (c + 1) (fun _ _ => 1) (gm 252 62 g0)))).2, none) := by
    have z5 : ∀ n v A, rq g0 n v A 223 5 = (st : Int) := fun n v A => by rw [rq_f (by decide) (by decide)]; exact eg5
    rw [c_M_explores hw', ← hg0, R_nought hw' g0 eg2 hc4, mj_bu_some, z5, R_stays hw' g0 (n := c + 1) (l := st) (by omega) (by omega) (by omega) (mkr_c ph0.2.1 (sL_okr (by omega) (hL st hst)).2) (0, sqn (c + 1) (fun _ _ => 1) (gm 252 62 g0)) (Or.inl rfl), mj_bu_some, rwt_c ph0.2.1, R_roughens hw' g0 (by omega) (rwt H (c + 1) st (0, sqn (c + 1) (fun _ _ => 1) (gm 252 62 g0))) v1, rrg_c ph0.2.1]
    have e2 : ∀ X : Int × Mt, (if X.1 = 0 then some (w', rq g0 ((c + 1 : Nat) : Int) (rcl (c + 1) (X.1, rrg H (c + 1) (c + 1) 0 X.2)).1 (rcl (c + 1) (X.1, rrg H (c + 1) (c + 1) 0 X.2)).2, (none : Option mj_V)) else some (w', rq g0 ((c + 1 : Nat) : Int) X.1 X.2, none)) = some (w', rq g0 ((c + 1 : Nat) : Int) (rgR H (c + 1) X).1 (rgR H (c + 1) X).2, none) := fun X => by
      unfold rgR
      split <;> rfl
    rw [e2, mj_bu_some, rq_v, z5]
  rw [ef, er]
  have hso : (rgC H (pl sw) (c + 1) (zwt H (pl sw) (c + 1) st (0, fun _ _ => 1))).1 = 0 → stOK H st := fun h => by
    refine stOK_of (by omega) (by omega) (hL st hst) ?_
    rcases (TS_01 (TS_keep (hL st hst) (M := 102) (by decide) (by omega) T0)).1 with z | z
    · exact z
    · exfalso
      have z2 : (zwt H (pl sw) (c + 1) st (0, fun _ _ => 1)).1 = 1 := by
        unfold zwt
        exact zkr_v z
      unfold rgC at h
      rw [if_neg (by omega)] at h
      omega
  revert h01 T2 hso
  generalize rgC H (pl sw) (c + 1) (zwt H (pl sw) (c + 1) st (0, fun _ _ => 1)) = q
  generalize rgR H (c + 1) (rwt H (c + 1) st (0, sqn (c + 1) (fun _ _ => 1) (gm 252 62 g0))) = r
  intro T2 h01 hso
  rcases h01.1 with y0 | y1
  rotate_left
  · rw [if_neg (by omega), if_neg (by omega)]
    exact ⟨_, _, 0, rfl, rfl, BK_w bk0, CB_t c0 (CB_z (by omega)), MB_t m0 MB_q⟩
  have y0' : r.1 = 0 := h01.2.2.symm.trans y0
  have T3 : TS (c + 1) 802 (0, q.2) (0, r.2) := by
    rw [show q = (0, q.2) from Prod.ext y0 rfl, show r = (0, r.2) from Prod.ext y0' rfl] at T2
    exact T2
  have e37 : zs 46 f0 ((c + 1 : Nat) : Int) 0 q.2 37 9 = ((0 : Nat) : Int) := by rw [zs_o (by omega) (by omega)]; exact bk0.2.1
  rw [if_pos y0, if_pos y0', y0, y0', G_append hw e37 (by omega) (show st < 8 by omega) (by rw [zs_v]; exact Or.inl rfl), mj_bu_some, R_adds hw' g0 (n := c + 1) (by omega) bk0.2.2.1 (by omega), mj_bu_some]
  have bk1 := BK_add hc4 bk0 (by omega) T3 hst (x2 := -2) (x3 := -2) (x4 := 0) (fun _ => ⟨rfl, rfl, rfl, rfl, hso y0⟩) (fun z => absurd z (by omega))
  have c1 : CB f (apF (zs 46 f0 ((c + 1 : Nat) : Int) 0 q.2) 0 st (-2) (-2) 0) := CB_t c0 (CB_t (CB_z (by omega)) (apF_CB (by omega)))
  have m1 : MB g (rq (adF g0 0 (c + 1) (st : Int) (-2) (-2) r.2) ((c + 1 : Nat) : Int) 0 r.2) := MB_t m0 adF_MB
  have e1 : apF (zs 46 f0 ((c + 1 : Nat) : Int) 0 q.2) 0 st (-2) (-2) 0 37 9 = ((1 : Nat) : Int) := bk1.2.1
  have e2 : rq (adF g0 0 (c + 1) (st : Int) (-2) (-2) r.2) ((c + 1 : Nat) : Int) 0 r.2 223 23 = ((1 : Nat) : Int) := bk1.2.2.1
  rw [l_G_build_73 hw _ _ _ _ (pl_pn sw), l_M_explores_43 hw', e1, e2, if_neg (by omega), if_neg (by omega), if_neg (by omega)]
  exact BE_t c1 m1 (build_from hw hw' ra _ 0 0 1 _ _ (Nat.le_refl _) (by omega) (by omega) (PH_f ph c1 m1) bk1)
end BL
