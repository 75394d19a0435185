/-! A node more; an edge from a node, in both. -/
section APF
variable {F : mj_F} {N a : Nat} {x2 x3 x4 : Int}
theorem apF_37 : apF F N a x2 x3 x4 37 9 = ((N + 1 : Nat) : Int) := u_self
theorem apF_39 (q : Nat) : apF F N a x2 x3 x4 39 q = if q = N then (a : Int) else F 39 q := by
  unfold apF
  by_cases h : q = N
  · rw [if_pos h, h, u_o (by omega), u_o (by omega), u_o (by omega), u_o (by omega), u_o (by omega), u_o (by omega), u_self]
  · rw [if_neg h, u_o (by omega), u_o (by omega), u_o (by omega), u_o (by omega), u_o (by omega), u_o (by omega), u_o (Or.inr h), zs_o (by omega) (by omega)]
theorem apF_40 (q : Nat) : apF F N a x2 x3 x4 40 q = if q = N then x2 else F 40 q := by
  unfold apF
  by_cases h : q = N
  · rw [if_pos h, h, u_o (by omega), u_o (by omega), u_o (by omega), u_o (by omega), u_o (by omega), u_self]
  · rw [if_neg h, u_o (by omega), u_o (by omega), u_o (by omega), u_o (by omega), u_o (by omega), u_o (Or.inr h), u_o (by omega), zs_o (by omega) (by omega)]
theorem apF_41 (q : Nat) : apF F N a x2 x3 x4 41 q = if q = N then x3 else F 41 q := by
  unfold apF
  by_cases h : q = N
  · rw [if_pos h, h, u_o (by omega), u_o (by omega), u_o (by omega), u_o (by omega), u_self]
  · rw [if_neg h, u_o (by omega), u_o (by omega), u_o (by omega), u_o (by omega), u_o (Or.inr h), u_o (by omega), u_o (by omega), zs_o (by omega) (by omega)]
theorem apF_42 (q : Nat) : apF F N a x2 x3 x4 42 q = if q = N then x4 else F 42 q := by
  unfold apF
  by_cases h : q = N
  · rw [if_pos h, h, u_o (by omega), u_o (by omega), u_o (by omega), u_self]
  · rw [if_neg h, u_o (by omega), u_o (by omega), u_o (by omega), u_o (Or.inr h), u_o (by omega), u_o (by omega), u_o (by omega), zs_o (by omega) (by omega)]
theorem apF_43 (q : Nat) : apF F N a x2 x3 x4 43 q = if q = N then -1 else F 43 q := by
  unfold apF
  by_cases h : q = N
  · rw [if_pos h, h, u_o (by omega), u_o (by omega), u_self]
  · rw [if_neg h, u_o (by omega), u_o (by omega), u_o (Or.inr h), u_o (by omega), u_o (by omega), u_o (by omega), u_o (by omega), zs_o (by omega) (by omega)]
theorem apF_44 (q : Nat) : apF F N a x2 x3 x4 44 q = if q = a then (if 0 ≤ F 44 a then F 44 a else (N : Int)) else F 44 q := by
  unfold apF
  by_cases h : q = a
  · rw [if_pos h, h, u_o (by omega), u_self]
  · rw [if_neg h, u_o (by omega), u_o (Or.inr h), u_o (by omega), u_o (by omega), u_o (by omega), u_o (by omega), u_o (by omega), zs_o (by omega) (by omega)]
theorem apF_z {b q : Nat} (h1 : 48 ≤ b) : apF F N a x2 x3 x4 b q = zs (48 + 2 * N) F (F 46 1) (F 46 2) (gm 47 6 F) b q := by
  unfold apF
  rw [u_o (by omega), u_o (by omega), u_o (by omega), u_o (by omega), u_o (by omega), u_o (by omega), u_o (by omega)]
theorem apF_CB (hN : N < 60) : CB F (apF F N a x2 x3 x4) := by
  intro b q h
  unfold apF
  rw [u_o (by omega), u_o (by omega), u_o (by omega), u_o (by omega), u_o (by omega), u_o (by omega), u_o (by omega), zs_o (by omega) (by omega)]
end APF
section ADF
variable {g : mj_F} {N n : Nat} {x1 x2 x3 m v : Int} {A B : Mt}
theorem adF_23 : rq (adF g N n x1 x2 x3 A) m v B 223 23 = ((N + 1 : Nat) : Int) := by rw [rq_f (by decide) (by decide)]; exact u_self
theorem adF_236 (q : Nat) : rq (adF g N n x1 x2 x3 A) m v B 236 q = if q = N then x1 else g 236 q := by
  rw [rq_o (by decide) (by decide)]
  unfold adF
  by_cases h : q = N
  · rw [if_pos h, h, u_o (by omega), stn_o (by omega), u_o (by omega), u_o (by omega), u_self]
  · rw [if_neg h, u_o (by omega), stn_o (by omega), u_o (by omega), u_o (by omega), u_o (Or.inr h)]
theorem adF_237 (q : Nat) : rq (adF g N n x1 x2 x3 A) m v B 237 q = if q = N then x2 else g 237 q := by
  rw [rq_o (by decide) (by decide)]
  unfold adF
  by_cases h : q = N
  · rw [if_pos h, h, u_o (by omega), stn_o (by omega), u_o (by omega), u_self]
  · rw [if_neg h, u_o (by omega), stn_o (by omega), u_o (by omega), u_o (Or.inr h), u_o (by omega)]
theorem adF_238 (q : Nat) : rq (adF g N n x1 x2 x3 A) m v B 238 q = if q = N then x3 else g 238 q := by
  rw [rq_o (by decide) (by decide)]
  unfold adF
  by_cases h : q = N
  · rw [if_pos h, h, u_o (by omega), stn_o (by omega), u_self]
  · rw [if_neg h, u_o (by omega), stn_o (by omega), u_o (Or.inr h), u_o (by omega), u_o (by omega)]
theorem adF_in (hn : n ≤ 5) {i j : Nat} (hi : i < n) (hj : j < n) : tsq (rq (adF g N n x1 x2 x3 A) m v B) 239 N i j = A i j := by
  unfold tsq
  rw [rq_o (by decide) (by decide)]
  unfold adF
  rw [u_o (by omega), stn_in hn hi hj]
theorem adF_no {k : Nat} (hk : k ≠ N) {i j : Nat} (hi : i < 5) (hj : j < 5) : tsq (rq (adF g N n x1 x2 x3 A) m v B) 239 k i j = tsq g 239 k i j := by
  unfold tsq
  rw [rq_o (by decide) (by decide)]
  unfold adF
  rw [u_o (by omega), stn_o (by omega), u_o (by omega), u_o (by omega), u_o (by omega)]
theorem adF_MB : MB g (rq (adF g N n x1 x2 x3 A) m v B) := by
  intro a q h1 h2 h3
  have e : adF g N n x1 x2 x3 A a q = g a q := by
    unfold adF
    rw [u_o (by omega), stn_o (by omega), u_o (by omega), u_o (by omega), u_o (by omega)]
  by_cases z : a = 223
  · subst z; rw [rq_f (by omega) (by omega)]; exact e
  · rw [rq_o z h3]; exact e
end ADF
theorem BK_add {H f g : mj_F} {c np ne st N : Nat} (hc4 : c ≤ 4) (bk : BK H f g c np ne st N) (hN : N < 60) {C A : Mt} (ts : TS (c + 1) 802 (0, C) (0, A)) {a : Nat} (ha : a < np) {x2 x3 x4 : Int} (h0 : N = 0 → x2 = -2 ∧ x3 = -2 ∧ x4 = 0 ∧ a = st ∧ stOK H st) (hS : 0 < N → ∃ j e d : Nat, j < N ∧ e < ne ∧ x2 = (j : Int) ∧ x3 = (e : Int) ∧ f 42 j = (d : Int) ∧ x4 = ((d + 1 : Nat) : Int) ∧ d < N ∧ H 228 e = g 236 j ∧ H 229 e = (a : Int)) : BK H (apF (zs 46 f ((c + 1 : Nat) : Int) 0 C) N a x2 x3 x4) (rq (adF g N (c + 1) (a : Int) x2 x3 A) ((c + 1 : Nat) : Int) 0 A) c np ne st (N + 1) := by
  obtain ⟨b1, b2, b3, b4, b5⟩ := bk
  have z : ∀ b q, b ≠ 46 → b ≠ 47 → zs 46 f ((c + 1 : Nat) : Int) 0 C b q = f b q := fun b q h1 h2 => zs_o h1 h2
  refine ⟨by omega, apF_37, adF_23, fun k hk => ?_, fun a' ha' => ?_⟩
  · by_cases hkN : k = N
    · subst hkN
      refine ⟨⟨a, ha, ?_, ?_⟩, ?_, ?_, fun e0 => ?_, fun e0 => ?_, ?_, ?_, ?_⟩
      · rw [apF_39, if_pos rfl]
      · rw [adF_236, if_pos rfl]
      · rw [apF_40, adF_237, if_pos rfl, if_pos rfl]
      · rw [apF_41, adF_238, if_pos rfl, if_pos rfl]
      · obtain ⟨y1, y2, y3, y4, y5⟩ := h0 e0
        rw [adF_237, adF_238, apF_42, adF_236, if_pos e0.symm, if_pos e0.symm, if_pos e0.symm, if_pos e0.symm]
        exact ⟨y1, y2, y3, by rw [y4], y5⟩
      · obtain ⟨j, e, d, y1, y2, y3, y4, y5, y6, y7, y8, y9⟩ := hS e0
        refine ⟨j, e, d, y1, y2, ?_, ?_, ?_, ?_, y7, ?_, ?_⟩
        · rw [adF_237, if_pos rfl]; exact y3
        · rw [adF_238, if_pos rfl]; exact y4
        · rw [apF_42, if_neg (by omega), z _ _ (by omega) (by omega)]; exact y5
        · rw [apF_42, if_pos rfl]; exact y6
        · rw [adF_236, if_neg (by omega)]; exact y8
        · rw [adF_236, if_pos rfl]; exact y9
      · rw [apF_z (by omega), zs_n]
        exact zs_n
      · have e1 : apF (zs 46 f ((c + 1 : Nat) : Int) 0 C) k a x2 x3 x4 (48 + 2 * k) 2 = 0 := by
          rw [apF_z (by omega), zs_v]; exact zs_v
        have e2 : ∀ i j, i < c + 1 → j < c + 1 → gm (49 + 2 * k) 6 (apF (zs 46 f ((c + 1 : Nat) : Int) 0 C) k a x2 x3 x4) i j = C i j := fun i j hi hj => by
          unfold gm
          rw [apF_z (by omega), show 49 + 2 * k = 48 + 2 * k + 1 by omega]
          have y1 : zs (48 + 2 * k) (zs 46 f ((c + 1 : Nat) : Int) 0 C) (zs 46 f ((c + 1 : Nat) : Int) 0 C 46 1) (zs 46 f ((c + 1 : Nat) : Int) 0 C 46 2) (gm 47 6 (zs 46 f ((c + 1 : Nat) : Int) 0 C)) (48 + 2 * k + 1) (6 * i + j) = gm 47 6 (zs 46 f ((c + 1 : Nat) : Int) 0 C) i j := sm_get (show i < 6 by omega) (show j < 6 by omega)
          have y2 : gm 47 6 (zs 46 f ((c + 1 : Nat) : Int) 0 C) i j = C i j := sm_get (show i < 6 by omega) (show j < 6 by omega)
          exact y1.trans y2
        exact TS_e ts e1 rfl e2 (fun i j hi hj => by
          show tsq (rq (adF g k (c + 1) (a : Int) x2 x3 A) ((c + 1 : Nat) : Int) 0 A) 239 k i j = A i j
          exact adF_in (by omega) hi hj)
      · rw [apF_43, if_pos rfl]
    · obtain ⟨⟨a0, n1, n2, n3⟩, n4, n5, n6, n7, n8, n9, n10⟩ := b4 k (by omega)
      have hk' : k < N := by omega
      have yz := fun q => (zs_y (f := zs 46 f ((c + 1 : Nat) : Int) 0 C) (n := zs 46 f ((c + 1 : Nat) : Int) 0 C 46 1) (v := zs 46 f ((c + 1 : Nat) : Int) 0 C 46 2) (C := gm 47 6 (zs 46 f ((c + 1 : Nat) : Int) 0 C)) (q := q) (zn48 hN) (zn48 (show k < 60 by omega)) (by omega))
      have y0 := fun q => (zs_y (f := f) (n := ((c + 1 : Nat) : Int)) (v := 0) (C := C) (q := q) zn46 (zn48 (show k < 60 by omega)) (by omega))
      have w1 : ∀ q, apF (zs 46 f ((c + 1 : Nat) : Int) 0 C) N a x2 x3 x4 (48 + 2 * k) q = f (48 + 2 * k) q := fun q => by rw [apF_z (by omega), (yz q).1, (y0 q).1]
      have w2 : ∀ q, apF (zs 46 f ((c + 1 : Nat) : Int) 0 C) N a x2 x3 x4 (49 + 2 * k) q = f (49 + 2 * k) q := fun q => by rw [apF_z (by omega), show 49 + 2 * k = 48 + 2 * k + 1 by omega, (yz q).2, (y0 q).2]
      refine ⟨⟨a0, n1, ?_, ?_⟩, ?_, ?_, fun e0 => ?_, fun e0 => ?_, ?_, ?_, ?_⟩
      · rw [apF_39, if_neg hkN, z _ _ (by omega) (by omega)]; exact n2
      · rw [adF_236, if_neg hkN]; exact n3
      · rw [apF_40, adF_237, if_neg hkN, if_neg hkN, z _ _ (by omega) (by omega)]; exact n4
      · rw [apF_41, adF_238, if_neg hkN, if_neg hkN, z _ _ (by omega) (by omega)]; exact n5
      · obtain ⟨y1, y2, y3, y4, y5⟩ := n6 e0
        rw [adF_237, adF_238, apF_42, adF_236, if_neg (by omega), if_neg (by omega), if_neg (by omega), if_neg (by omega), z _ _ (by omega) (by omega)]
        exact ⟨y1, y2, y3, y4, y5⟩
      · obtain ⟨j, e, d, y1, y2, y3, y4, y5, y6, y7, y8, y9⟩ := n7 e0
        refine ⟨j, e, d, y1, y2, ?_, ?_, ?_, ?_, y7, ?_, ?_⟩
        · rw [adF_237, if_neg hkN]; exact y3
        · rw [adF_238, if_neg hkN]; exact y4
        · rw [apF_42, if_neg (by omega), z _ _ (by omega) (by omega)]; exact y5
        · rw [apF_42, if_neg hkN, z _ _ (by omega) (by omega)]; exact y6
        · rw [adF_236, if_neg (by omega)]; exact y8
        · rw [adF_236, if_neg hkN]; exact y9
      · rw [w1]; exact n8
      · refine TS_e n9 (w1 2) rfl (fun i j hi hj => w2 _) (fun i j hi hj => by
          show tsq (rq (adF g N (c + 1) (a : Int) x2 x3 A) ((c + 1 : Nat) : Int) 0 A) 239 k i j = tsq g 239 k i j
          exact adF_no hkN (by omega) (by omega))
      · rw [apF_43, if_neg hkN, z _ _ (by omega) (by omega)]; exact n10
  · rw [apF_44, z _ _ (by omega) (by omega), z _ _ (by omega) (by omega)]
    rcases b5 a' ha' with ⟨y1, y2⟩ | ⟨k, y1, y2, y3, y4⟩
    · by_cases haa : a' = a
      · subst haa
        right
        refine ⟨N, by omega, ?_, ?_, fun j hj => ?_⟩
        · rw [if_pos rfl, y1, if_neg (by omega)]
        · rw [adF_236, if_pos rfl]
        · rw [adF_236, if_neg (by omega)]; exact y2 j hj
      · left
        refine ⟨by rw [if_neg haa]; exact y1, fun k hk => ?_⟩
        rw [adF_236]
        by_cases hkN : k = N
        · rw [if_pos hkN]
          intro q
          exact haa (by omega)
        · rw [if_neg hkN]; exact y2 k (by omega)
    · right
      refine ⟨k, by omega, ?_, ?_, fun j hj => ?_⟩
      · by_cases haa : a' = a
        · subst haa
          rw [if_pos rfl, if_pos (by omega)]; exact y2
        · rw [if_neg haa]; exact y2
      · rw [adF_236, if_neg (by omega)]; exact y3
      · rw [adF_236, if_neg (by omega)]; exact y4 j hj
section GB
variable {sw sw' : Bool} {w w' : mj_W}
/-- the reference, up to whether it is known -/
theorem R_body (hw' : wk sw' w') {H f g : mj_F} {c np ne st N k e : Nat} (ra : RA sw H c np ne st) (ph : PH sw H f g) (bk : BK H f g c np ne st N) (hk : k < N) (he : e < ne) (hfr : H 228 e = g 236 k) : ∃ (l : Nat) (q r : Int × Mt), l < np ∧ H (pl sw + 9) e = (l : Int) ∧ H 229 e = (l : Int) ∧ q = rgC H (pl sw) (c + 1) (zst H (pl sw) (c + 1) e l (0, gm (49 + 2 * k) 6 f)) ∧ TS (c + 1) 802 q r ∧ mj_run yM_explores w' g 53 [.inr (.inl 223), .inl (k : Int), .inl (e : Int)] [] = if ¬ r.1 = 0 then mj_run yM_explores w' (rq g ((c + 1 : Nat) : Int) r.1 r.2) 53 [.inr (.inl 223), .inl (k : Int), .inl ((e + 1 : Nat) : Int)] [] else mj_bi (mj_call yM_isKnown w' (rq g ((c + 1 : Nat) : Int) r.1 r.2) [.inr (.inl 223), .inl (l : Int)]) (fun f11 v12 => if v12 = 0 then if ¬ (f11 223 23) = 60 then mj_gd (0 ≤ (e : Int) ∧ (e : Int) < ((16 : Nat) : Int)) (mj_bu (mj_call yM_adds w' f11 [.inr (.inl 223), .inl (f11 229 e), .inl (k : Int), .inl (e : Int)]) (fun f14 => mj_run yM_explores w' f14 53 [.inr (.inl 223), .inl (k : Int), .inl ((e + 1 : Nat) : Int)] [])) else some (w', f11, none) else mj_run yM_explores w' f11 53 [.inr (.inl 223), .inl (k : Int), .inl ((e + 1 : Nat) : Int)] []) := by
  obtain ⟨⟨hc4, hn8, he16, _, _⟩, ⟨_, xc, mc, xp, mp, xe, me, xs, ms⟩, hL, hE, h0, hg⟩ := id ra
  obtain ⟨b1, b2, b3, b4, b5⟩ := id bk
  obtain ⟨⟨pa, n1, n2, n3⟩, -, -, -, -, n4, n5, -⟩ := b4 k hk
  obtain ⟨se, ss, a, l, ha, hl, q1, q2, q3, q4⟩ := hE e he
  have hz : f (48 + 2 * k) 2 = 0 := (TS_01 n5).2.2
  rw [hz] at n5
  have eg4 : g 223 4 = (ne : Int) := (ph.2.2 4 (by omega) (by omega)).trans me
  have eg2 : g 223 2 = (c : Int) := (ph.2.2 2 (by omega) (by omega)).trans mc
  have eg8 : g 228 = H 228 := ph.2.1 228 (by omega) (by omega)
  have eg9 : g 229 = H 229 := ph.2.1 229 (by omega) (by omega)
  have T0 : TS (c + 1) 802 (0, gm (49 + 2 * k) 6 f) (0, sqn (c + 1) (tsq g 239 k) (gm 252 62 g)) := TS_e n5 rfl rfl (fun _ _ _ _ => rfl) (fun i j hi hj => sqn_in hi hj)
  have T1 := TS_step (show c + 1 ≤ 5 by omega) (hL l hl) se ss T0
  have T2 := TS_rg ra (by decide) T1
  refine ⟨l, _, _, hl, q3, q4, rfl, T2, ?_⟩
  have v1 := (TS_01 T1).2.1
  rw [l_M_explores_53 hw', eg4, if_neg (by omega), mj_gd_pos (by omega), mj_gd_pos (by omega), Int.toNat_natCast, Int.toNat_natCast, eg8, if_pos hfr, R_loadsNode hw' g eg2 hc4 (by omega), mj_bu_some, R_steps hw' g (n := c + 1) (l := l) (by omega) (by omega) (by omega) (by omega) (by rw [eg9]; exact q4) (mkr_c ph.2.1 (sL_okr (by omega) (hL l hl)).2) (mkr_c ph.2.1 (sL_okr (by omega) se).2) (mks_c ph.2.1 (sS_ok (by omega) ss).2) (0, sqn (c + 1) (tsq g 239 k) (gm 252 62 g)) (Or.inl rfl), mj_bu_some, rsp_c ph.2.1, R_roughens hw' g (by omega) (rsp H (c + 1) e l (0, sqn (c + 1) (tsq g 239 k) (gm 252 62 g))) v1, rrg_c ph.2.1]
  have e2 : ∀ X : Int × Mt, (if X.1 = 0 then some (w', rq g ((c + 1 : Nat) : Int) (rcl (c + 1) (X.1, rrg H (c + 1) (c + 1) 0 X.2)).1 (rcl (c + 1) (X.1, rrg H (c + 1) (c + 1) 0 X.2)).2, (none : Option mj_V)) else some (w', rq g ((c + 1 : Nat) : Int) X.1 X.2, none)) = some (w', rq g ((c + 1 : Nat) : Int) (rgR H (c + 1) X).1 (rgR H (c + 1) X).2, none) := fun X => by
    unfold rgR
    split <;> rfl
  rw [e2, mj_bu_some, rq_v, wS (by omega)]
  have e229 : ∀ n v A, rq g n v A 229 e = (l : Int) := fun n v A => by rw [rq_o (by decide) (by decide), eg9]; exact q4
  rw [mj_gd_pos (by omega), e229]
/-- one edge from one node, in both -/
theorem grow_both (hw : wk sw w) (hw' : wk sw' w') {H f g : mj_F} {c np ne st N k e : Nat} (ra : RA sw H c np ne st) (ph : PH sw H f g) (bk : BK H f g c np ne st N) (hN : N < 60) (hk : k < N) (he : e < ne) (hfr : H 228 e = g 236 k) : ∃ (f' g' : mj_F) (N' : Nat), mj_call yG_grow w f [.inr (.inl 37), .inr (.inl (pl sw)), .inl (k : Int), .inl (e : Int)] = some (w, f', none) ∧ mj_run yM_explores w' g 53 [.inr (.inl 223), .inl (k : Int), .inl (e : Int)] [] = mj_run yM_explores w' g' 53 [.inr (.inl 223), .inl (k : Int), .inl ((e + 1 : Nat) : Int)] [] ∧ N ≤ N' ∧ BK H f' g' c np ne st N' ∧ CB f f' ∧ MB g g' := by
  obtain ⟨l, q, r, hl, q3, q4, eq, T2, er⟩ := R_body hw' ra ph bk hk he hfr
  obtain ⟨⟨hc4, hn8, he16, _, _⟩, ⟨_, xc, mc, xp, mp, xe, me, xs, ms⟩, hL, hE, h0, hg⟩ := id ra
  obtain ⟨b1, b2, b3, b4, b5⟩ := id bk
  obtain ⟨⟨pa, n1, n2, n3⟩, n31, n32, n33, n34, n4, n5, n6⟩ := b4 k hk
  obtain ⟨se, ss, _⟩ := hE e he
  have hp := pl_o sw
  have hz : f (48 + 2 * k) 2 = 0 := (TS_01 n5).2.2
  have ep9 : f (pl sw + 9) e = (l : Int) := by rw [ph.1 9 (by omega)]; exact q3
  have h01 := TS_01 T2
  have hbe : mj_call yZ_become w f [.inr (.inl 46), .inr (.inl (48 + 2 * k))] = some (w, zs 46 f ((c + 1 : Nat) : Int) 0 (gm (49 + 2 * k) 6 f), none) := by
    rw [Z_become hw zn46 (zn48 (by omega)) (by omega) _ (Or.inl hz), n4, hz, show 48 + 2 * k + 1 = 49 + 2 * k by omega]
  have ge : (0 : Int) ≤ (e : Int) ∧ (e : Int) < ((16 : Nat) : Int) := ⟨by omega, by omega⟩
  have gk : (0 : Int) ≤ (k : Int) ∧ (k : Int) < ((60 : Nat) : Int) := ⟨by omega, by omega⟩
  have ecl : mj_call yG_grow w f [.inr (.inl 37), .inr (.inl (pl sw)), .inl (k : Int), .inl (e : Int)] = if ¬ q.1 = 0 then some (w, zs 46 f ((c + 1 : Nat) : Int) q.1 q.2, none) else mj_bi (mj_call yG_isCovered w (zs 46 f ((c + 1 : Nat) : Int) q.1 q.2) [.inr (.inl 37), .inl (l : Int)]) (fun f6 v7 => if ¬ v7 = 0 then some (w, f6, none) else mj_gd (0 ≤ (e : Int) ∧ (e : Int) < ((16 : Nat) : Int)) (mj_gd (0 ≤ (k : Int) ∧ (k : Int) < ((60 : Nat) : Int)) (mj_bu (mj_call yG_append w f6 [.inr (.inl 37), .inl (f6 (pl sw + 9) e), .inl (k : Int), .inl (e : Int), .inl (mj_w ((f6 42 k) + 1))]) (fun f10 => some (w, f10, none))))) := by
    have ez : ∀ n v C, zs 46 f n v C (pl sw + 9) e = (l : Int) := fun n v C => by rw [zs_p zn46 (pl_pn sw) (by omega)]; exact ep9
    rw [c_G_grow hw _ _ _ _ (pl_pn sw), mj_gd_pos (by omega), Int.toNat_natCast, Int.toNat_natCast, hbe, mj_bu_some, Z_stepBy hw zn46 (pl_pn sw) f (n := c + 1) (by omega) (by omega) (by omega) (by omega) ep9 (okr_c ph.1 (sL_okr (by omega) (hL l hl)).1) (okr_c ph.1 (sL_okr (by omega) se).1) (oks_c ph.1 (sS_ok (by omega) ss).1) (0, gm (49 + 2 * k) 6 f), mj_bu_some, zst_c ph.1, Z_roughen hw zn46 (pl_pn sw) f (by omega), zrg_c ph.1]
    have e2 : ∀ X : Int × Mt, (if X.1 = 0 then some (w, zs 46 f ((c + 1 : Nat) : Int) (zcl (c + 1) X.1 (zrg H (pl sw) (c + 1) (c + 1) 0 X.2)).1 (zcl (c + 1) X.1 (zrg H (pl sw) (c + 1) (c + 1) 0 X.2)).2, (none : Option mj_V)) else some (w, zs 46 f ((c + 1 : Nat) : Int) X.1 X.2, none)) = some (w, zs 46 f ((c + 1 : Nat) : Int) (rgC H (pl sw) (c + 1) X).1 (rgC H (pl sw) (c + 1) X).2, none) := fun X => by
      unfold rgC
      split <;> rfl
    rw [e2, mj_bu_some, ← eq, zs_v, mj_gd_pos ge, ez]
  rw [ecl, er]
  rcases h01.1 with y0 | y1
  rotate_left
  · refine ⟨_, _, N, if_pos (by omega), if_pos (by omega), Nat.le_refl N, BK_w bk, CB_z (by omega), MB_q⟩
  have y0' : r.1 = 0 := h01.2.2.symm.trans y0
  rw [if_neg (fun z => z y0), if_neg (fun z => z y0'), y0, y0']
  have T3 : TS (c + 1) 802 (0, q.2) (0, r.2) := by
    rw [show q = (0, q.2) from Prod.ext y0 rfl, show r = (0, r.2) from Prod.ext y0' rfl] at T2
    exact T2
  obtain ⟨v, k1, k2⟩ := known_both hw hw' hc4 bk T3 (l : Int)
  rw [k1, k2, mj_bi_some, mj_bi_some]
  by_cases hv : v = 0
  rotate_left
  · rw [if_pos hv, if_neg hv]
    exact ⟨_, _, N, rfl, rfl, Nat.le_refl N, BK_w bk, CB_z (by omega), MB_q⟩
  have e23 : rq g ((c + 1 : Nat) : Int) 0 r.2 223 23 = (N : Int) := by rw [rq_f (by decide) (by decide)]; exact b3
  have e37 : zs 46 f ((c + 1 : Nat) : Int) 0 q.2 37 9 = (N : Int) := by rw [zs_o (by omega) (by omega)]; exact b2
  have e229 : rq g ((c + 1 : Nat) : Int) 0 r.2 229 e = (l : Int) := by rw [rq_o (by decide) (by decide), ph.2.1 229 (by omega) (by omega)]; exact q4
  have ez9 : zs 46 f ((c + 1 : Nat) : Int) 0 q.2 (pl sw + 9) e = (l : Int) := by rw [zs_p zn46 (pl_pn sw) (by omega)]; exact ep9
  have ez42 : zs 46 f ((c + 1 : Nat) : Int) 0 q.2 42 k = f 42 k := zs_o (by omega) (by omega)
  obtain ⟨d, hd, hdk⟩ : ∃ d : Nat, f 42 k = (d : Int) ∧ d ≤ k := by
    by_cases hk0 : k = 0
    · subst hk0
      exact ⟨0, (n33 rfl).2.2.1, Nat.le_refl 0⟩
    · obtain ⟨j, e', d, _, _, _, _, _, y6, y7, _⟩ := n34 (by omega)
      exact ⟨d + 1, y6, by omega⟩
  rw [if_neg (fun z => z hv), if_pos hv, e23, if_pos (show ¬ (N : Int) = 60 by omega), mj_gd_pos ge, mj_gd_pos gk, mj_gd_pos ge, e229, ez9, ez42, hd, wS (by omega), G_append hw e37 hN (by omega) (by rw [zs_v]; exact Or.inl rfl), mj_bu_some, R_adds hw' g (n := c + 1) (by omega) b3 hN, mj_bu_some]
  refine ⟨_, _, N + 1, rfl, rfl, by omega, BK_add hc4 bk hN T3 hl (fun z => by omega) (fun _ => ⟨k, e, d, hk, he, rfl, rfl, hd, rfl, by omega, hfr, q4⟩), CB_t (CB_z (by omega)) (apF_CB hN), adF_MB⟩
end GB
