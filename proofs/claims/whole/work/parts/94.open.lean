/-! open, stuck. -/
theorem rq_self (H : mj_F) : rq H (H 223 52) (H 223 53) (gm 252 62 H) = H := by
  unfold rq
  rw [mu_same (rfl : H 223 52 = H 223 52), mu_same (rfl : H 223 53 = H 223 53), sm_gm]
/-- which edges of the first m are open at a node -/
def opM (f : mj_F) (p c k m : Nat) : Int := itr m (fun e b => if f (p + 8) e = f 39 k then mj_or b (if (zst f p (c + 1) e (f (p + 9) e).toNat (0, gm (49 + 2 * k) 6 f)).1 = 0 then mj_shl 1 (e : Int) else 0) else b) 0
theorem opM_S {f : mj_F} {p c k m : Nat} : opM f p c k (m + 1) = if f (p + 8) m = f 39 k then mj_or (opM f p c k m) (if (zst f p (c + 1) m (f (p + 9) m).toNat (0, gm (49 + 2 * k) 6 f)).1 = 0 then mj_shl 1 (m : Int) else 0) else opM f p c k m := rfl
section OP
variable {sw : Bool} {w : mj_W}
theorem G_open_run (hw : wk sw w) {F : mj_F} {c np ne st N L nx d tp : Nat} {ed : Nat → Nat} (r : RX sw F c np ne st N L nx d tp ed) {k : Nat} (hk : k < N) : ∀ m, m ≤ ne → ∃ (n v : Int) (C : Mt), mj_run yG_openEdges w F 22 [.inr (.inl 37), .inr (.inl (pl sw)), .inl (k : Int), .inl 0, .inl 0] [] = mj_run yG_openEdges w (zs 46 F n v C) 22 [.inr (.inl 37), .inr (.inl (pl sw)), .inl (k : Int), .inl (opM F (pl sw) c k m), .inl (m : Int)] [] := by
  obtain ⟨⟨hc4, hn8, he16, _, _⟩, ⟨_, xc, mc, xp, mp, xe, me, xs, ms⟩, hL, hE, h0, hg⟩ := r.1
  have hN := r.2.2.1.1
  have hp := pl_o sw
  have gk : (0 : Int) ≤ (k : Int) ∧ (k : Int) < ((60 : Nat) : Int) := ⟨by omega, by omega⟩
  have n1 := (r.2.2.1.2.2.2.1 k hk).2.2.2.2.2.1
  have n2 := (r.2.2.1.2.2.2.1 k hk).2.2.2.2.2.2.1
  have hz : F (48 + 2 * k) 2 = 0 := (TS_01 n2).2.2
  intro m
  induction m with
  | zero =>
    intro _
    refine ⟨F 46 1, F 46 2, gm 47 6 F, ?_⟩
    rw [show zs 46 F (F 46 1) (F 46 2) (gm 47 6 F) = F from zs_self]
    rfl
  | succ m ih =>
    intro hm
    obtain ⟨n, v, C, e⟩ := ih (by omega)
    have gm16 : (0 : Int) ≤ (m : Int) ∧ (m : Int) < ((16 : Nat) : Int) := ⟨by omega, by omega⟩
    obtain ⟨se, ss, a, b, ha, hb, q1, _, q3, _⟩ := hE m (by omega)
    have z8 : zs 46 F n v C (pl sw + 8) m = F (pl sw + 8) m := zs_p zn46 (pl_pn sw) (by omega)
    have z39 : zs 46 F n v C 39 k = F 39 k := zs_o (by omega) (by omega)
    have z3 : zs 46 F n v C (pl sw) 3 = (ne : Int) := by rw [zs_o (by omega) (by omega)]; exact xe
    rw [opM_S]
    by_cases hf : F (pl sw + 8) m = F 39 k
    · have hbe : mj_call yZ_become w (zs 46 F n v C) [.inr (.inl 46), .inr (.inl (48 + 2 * k))] = some (w, zs 46 F ((c + 1 : Nat) : Int) 0 (gm (49 + 2 * k) 6 F), none) := by
        have y := fun q => (zs_y (f := F) (n := n) (v := v) (C := C) (q := q) zn46 (zn48 (show k < 60 by omega)) (by omega))
        have gmy : gm (48 + 2 * k + 1) 6 (zs 46 F n v C) = gm (49 + 2 * k) 6 F := by
          unfold gm
          funext i j
          rw [(y _).2, show 48 + 2 * k + 1 = 49 + 2 * k by omega]
        rw [Z_become hw zn46 (zn48 (by omega)) (by omega) _ (by rw [(y 2).1]; exact Or.inl hz), (y 1).1, (y 2).1, gmy, n1, hz, zs_zs]
      refine ⟨((c + 1 : Nat) : Int), (zst F (pl sw) (c + 1) m b (0, gm (49 + 2 * k) 6 F)).1, (zst F (pl sw) (c + 1) m b (0, gm (49 + 2 * k) 6 F)).2, e.trans ?_⟩
      rw [l_G_openEdges_22 hw _ _ _ _ _ (pl_pn sw), z3, if_neg (by omega), mj_gd_pos gm16, mj_gd_pos gk, Int.toNat_natCast, Int.toNat_natCast, z8, z39, if_neg (fun q => q hf), mj_gd_pos gk, hbe, mj_bu_some, Z_stepBy hw zn46 (pl_pn sw) F (by omega) (by omega) (by omega) (by omega) q3 (sL_okr (by omega) (hL b hb)).1 (sL_okr (by omega) se).1 (sS_ok (by omega) ss).1 (0, gm (49 + 2 * k) 6 F), mj_bu_some, zs_v, if_pos hf, q3, Int.toNat_natCast, wS (by omega)]
      split <;> rfl
    · refine ⟨n, v, C, e.trans ?_⟩
      rw [l_G_openEdges_22 hw _ _ _ _ _ (pl_pn sw), z3, if_neg (by omega), mj_gd_pos gm16, mj_gd_pos gk, Int.toNat_natCast, Int.toNat_natCast, z8, z39, if_pos hf, if_neg hf, wS (by omega)]
theorem opC_M {f : mj_F} {p c ne k : Nat} : opC f p c ne k = opM f p c k ne := rfl
/-- a slot of opens filled with what is right -/
theorem RX_open {F G : mj_F} {c np ne st N L nx d tp k : Nat} {ed : Nat → Nat} (r : RX sw F c np ne st N L nx d tp ed) (hk : k < N) (hG : ∀ a q, a ≠ 43 → a ≠ 46 → a ≠ 47 → G a q = F a q) (h43 : ∀ q, G 43 q = if q = k then opC F (pl sw) c ne k else F 43 q) : RX sw G c np ne st N L nx d tp ed := by
  have hp := pl_o sw
  have hA : ∀ a, a ≠ 43 → a ≠ 46 → a ≠ 47 → G a = F a := fun a h1 h2 h3 => funext fun q => hG a q h1 h2 h3
  obtain ⟨ra, rb, rc, rd, re, rf⟩ := r
  have hpl : ∀ k, k ≤ 12 → G (pl sw + k) = F (pl sw + k) := fun k hk => hA _ (by omega) (by omega) (by omega)
  refine ⟨RA_c hpl (fun q _ _ => hG 223 q (by decide) (by decide) (by decide)) (fun a h1 h2 => hA a (by omega) (by omega) (by omega)) ra, RB_c (fun a h1 h2 => hA a (by omega) (by omega) (by omega)) (hA 234 (by decide) (by decide) (by decide)) rb, ?_, RD_c (hA 168 (by decide) (by decide) (by decide)) (hA 169 (by decide) (by decide) (by decide)) (hA 171 (by decide) (by decide) (by decide)) (hA 172 (by decide) (by decide) (by decide)) (fun q _ _ => hG 170 q (by decide) (by decide) (by decide)) (fun q _ => hG 234 q (by decide) (by decide) (by decide)) (fun a h1 h2 => hA a (by omega) (by omega) (by omega)) rd, RE_c (fun a h1 h2 => hA a (by omega) (by omega) (by omega)) (hG 223 18 (by decide) (by decide) (by decide)) (hA 234 (by decide) (by decide) (by decide)) (hA 235 (by decide) (by decide) (by decide)) (hA 228 (by decide) (by decide) (by decide)) (hA 229 (by decide) (by decide) (by decide)) re, ?_⟩
  · obtain ⟨r1, r2, r3, r4, r5⟩ := rc
    refine ⟨r1, (hG 37 9 (by decide) (by decide) (by decide)).trans r2, (hG 223 23 (by decide) (by decide) (by decide)).trans r3, fun j hj => ?_, fun a ha => ?_⟩
    · have t := r4 j hj
      have eo : opC G (pl sw) c ne j = opC F (pl sw) c ne j := opC_c hpl (hA 39 (by decide) (by decide) (by decide)) (hA _ (by omega) (by omega) (by omega))
      have hpf : Pf F G := ⟨hA 224 (by decide) (by decide) (by decide), hA 225 (by decide) (by decide) (by decide), hA 226 (by decide) (by decide) (by decide), hA 227 (by decide) (by decide) (by decide), hA 229 (by decide) (by decide) (by decide), hA 230 (by decide) (by decide) (by decide), hA 231 (by decide) (by decide) (by decide), hA 232 (by decide) (by decide) (by decide)⟩
      unfold RN at t ⊢
      rw [stOK_c hpf, hA 39 (by decide) (by decide) (by decide), hA 40 (by decide) (by decide) (by decide), hA 41 (by decide) (by decide) (by decide), hA 42 (by decide) (by decide) (by decide), hA 228 (by decide) (by decide) (by decide), hA 229 (by decide) (by decide) (by decide), hA 236 (by decide) (by decide) (by decide), hA 237 (by decide) (by decide) (by decide), hA 238 (by decide) (by decide) (by decide), tsq_c (hA 239 (by decide) (by decide) (by decide)), hA (48 + 2 * j) (by omega) (by omega) (by omega), gm_c (hA (49 + 2 * j) (by omega) (by omega) (by omega)), eo, h43 j]
      refine ⟨t.1, t.2.1, t.2.2.1, t.2.2.2.1, t.2.2.2.2.1, t.2.2.2.2.2.1, t.2.2.2.2.2.2.1, ?_⟩
      by_cases hjk : j = k
      · rw [if_pos hjk, hjk]; exact Or.inr rfl
      · rw [if_neg hjk]; exact t.2.2.2.2.2.2.2
    · rw [hA 44 (by decide) (by decide) (by decide), hA 236 (by decide) (by decide) (by decide)]
      exact r5 a ha
  · obtain ⟨f1, f2, f3, f4, f5, f6⟩ := rf
    refine ⟨f1, (hG 3 1 (by decide) (by decide) (by decide)).trans f2, (hG 223 25 (by decide) (by decide) (by decide)).trans f3, ?_, ?_, ?_⟩
    · rw [hA 4 (by decide) (by decide) (by decide), hA 240 (by decide) (by decide) (by decide)]; exact f4
    · rw [hG 3 8 (by decide) (by decide) (by decide), hG 223 31 (by decide) (by decide) (by decide)]; exact f5
    · rw [hG 3 9 (by decide) (by decide) (by decide), hG 223 32 (by decide) (by decide) (by decide)]; exact f6
theorem G_openEdges (hw : wk sw w) {F : mj_F} {c np ne st N L nx d tp : Nat} {ed : Nat → Nat} (r : RX sw F c np ne st N L nx d tp ed) {k : Nat} (hk : k < N) : ∃ F1 : mj_F, mj_call yG_openEdges w F [.inr (.inl 37), .inr (.inl (pl sw)), .inl (k : Int)] = some (w, F1, some (.inl (opC F (pl sw) c ne k))) ∧ RX sw F1 c np ne st N L nx d tp ed ∧ ∀ a q, a ≠ 43 → a ≠ 46 → a ≠ 47 → F1 a q = F a q := by
  have hN := r.2.2.1.1
  have hp := pl_o sw
  have xe := r.1.2.1.2.2.2.2.2.1
  have gk : (0 : Int) ≤ (k : Int) ∧ (k : Int) < ((60 : Nat) : Int) := ⟨by omega, by omega⟩
  have ho := (r.2.2.1.2.2.2.1 k hk).2.2.2.2.2.2.2
  by_cases h1 : F 43 k = -1
  · obtain ⟨n, v, C, e⟩ := G_open_run hw r hk ne (Nat.le_refl ne)
    have hGo : ∀ a q, a ≠ 43 → a ≠ 46 → a ≠ 47 → mj_u (zs 46 F n v C) 43 k (opM F (pl sw) c k ne) a q = F a q := fun a q h1 h2 h3 => by rw [u_o (Or.inl h1), zs_o h2 h3]
    refine ⟨mj_u (zs 46 F n v C) 43 k (opM F (pl sw) c k ne), ?_, RX_open r hk hGo (fun q => ?_), hGo⟩
    · rw [c_G_openEdges hw _ _ _ (pl_pn sw), mj_gd_pos gk, Int.toNat_natCast, if_pos h1, e, l_G_openEdges_22 hw _ _ _ _ _ (pl_pn sw), zs_o (by omega) (by omega), xe, if_pos (by omega), mj_gd_pos gk, Int.toNat_natCast, opC_M]
    · unfold mj_u
      by_cases hq : q = k
      · rw [if_pos ⟨rfl, hq⟩, if_pos hq, opC_M]
      · rw [if_neg (fun z => hq z.2), if_neg hq, zs_o (by omega) (by omega)]
  · refine ⟨F, ?_, r, fun _ _ _ _ _ => rfl⟩
    rw [c_G_openEdges hw _ _ _ (pl_pn sw), mj_gd_pos gk, Int.toNat_natCast, if_neg h1, mj_gd_pos gk]
    rcases ho with h | h
    · exact absurd h h1
    · rw [h]
theorem R_open_run (hw : wk sw w) {F : mj_F} {c np ne st N L nx d tp : Nat} {ed : Nat → Nat} (r : RX sw F c np ne st N L nx d tp ed) {k : Nat} (hk : k < N) : ∀ m, m ≤ ne → ∃ (n v : Int) (A : Mt), mj_run yM_openOf w F 4 [.inr (.inl 223), .inl (k : Int), .inl 0, .inl 0] [] = mj_run yM_openOf w (rq F n v A) 4 [.inr (.inl 223), .inl (k : Int), .inl (opM F (pl sw) c k m), .inl (m : Int)] [] := by
  obtain ⟨⟨hc4, hn8, he16, _, _⟩, ⟨_, xc, mc, xp, mp, xe, me, xs, ms⟩, hL, hE, h0, hg⟩ := r.1
  have hN := r.2.2.1.1
  have hp := pl_o sw
  have gk : (0 : Int) ≤ (k : Int) ∧ (k : Int) < ((60 : Nat) : Int) := ⟨by omega, by omega⟩
  obtain ⟨pa, hpa, p39, p236⟩ := (r.2.2.1.2.2.2.1 k hk).1
  have n1 := (r.2.2.1.2.2.2.1 k hk).2.2.2.2.2.1
  have n2 := (r.2.2.1.2.2.2.1 k hk).2.2.2.2.2.2.1
  have hz : F (48 + 2 * k) 2 = 0 := (TS_01 n2).2.2
  rw [hz] at n2
  intro m
  induction m with
  | zero =>
    intro _
    refine ⟨F 223 52, F 223 53, gm 252 62 F, ?_⟩
    rw [rq_self]
    rfl
  | succ m ih =>
    intro hm
    obtain ⟨n, v, A, e⟩ := ih (by omega)
    have gm16 : (0 : Int) ≤ (m : Int) ∧ (m : Int) < ((16 : Nat) : Int) := ⟨by omega, by omega⟩
    obtain ⟨se, ss, a, b, ha, hb, q1, q2, q3, q4⟩ := hE m (by omega)
    have z4 : rq F n v A 223 4 = (ne : Int) := by rw [rq_f (by decide) (by decide)]; exact me
    have z228 : rq F n v A 228 m = F 228 m := rq_o (by decide) (by decide)
    have z236 : rq F n v A 236 k = F 236 k := rq_o (by decide) (by decide)
    have hiff : F 228 m = F 236 k ↔ F (pl sw + 8) m = F 39 k := by rw [q1, q2, p39, p236]
    rw [opM_S]
    by_cases hf : F 228 m = F 236 k
    · obtain ⟨A1, hA1⟩ : ∃ A1, A1 = sqn (c + 1) (tsq (rq F n v A) 239 k) (gm 252 62 (rq F n v A)) := ⟨_, rfl⟩
      have hld : mj_call yM_loadsNode w (rq F n v A) [.inr (.inl 223), .inl (k : Int)] = some (w, rq F ((c + 1 : Nat) : Int) 0 A1, none) := by
        rw [R_loadsNode hw (rq F n v A) (c := c) (by rw [rq_f (by decide) (by decide)]; exact mc) hc4 (by omega), rq_rq, hA1]
      have T0 : TS (c + 1) 802 (0, gm (49 + 2 * k) 6 F) (0, A1) := TS_e n2 rfl rfl (fun _ _ _ _ => rfl) (fun i j hi hj => by
        show A1 i j = tsq F 239 k i j
        rw [hA1, sqn_in hi hj]
        exact rq_o (by decide) (by decide))
      have T1 := TS_step (by omega) (hL b hb) se ss T0
      have fl := (TS_01 T1).2.2
      refine ⟨((c + 1 : Nat) : Int), (rsp F (c + 1) m b (0, A1)).1, (rsp F (c + 1) m b (0, A1)).2, e.trans ?_⟩
      rw [l_M_openOf_4 hw, z4, if_neg (by omega), mj_gd_pos gm16, mj_gd_pos gk, Int.toNat_natCast, Int.toNat_natCast, z228, z236, if_pos hf, hld, mj_bu_some, R_steps hw F (by omega) (by omega) (by omega) (by omega) q4 (sL_okr (by omega) (hL b hb)).2 (sL_okr (by omega) se).2 (sS_ok (by omega) ss).2 (0, A1) (Or.inl rfl), mj_bu_some, rq_v, ← fl, if_pos (hiff.1 hf), q3, Int.toNat_natCast, wS (by omega)]
      split <;> rfl
    · refine ⟨n, v, A, e.trans ?_⟩
      rw [l_M_openOf_4 hw, z4, if_neg (by omega), mj_gd_pos gm16, mj_gd_pos gk, Int.toNat_natCast, Int.toNat_natCast, z228, z236, if_neg hf, if_neg (fun q => hf (hiff.2 q)), wS (by omega)]
theorem M_openOf (hw : wk sw w) {F : mj_F} {c np ne st N L nx d tp : Nat} {ed : Nat → Nat} (r : RX sw F c np ne st N L nx d tp ed) {k : Nat} (hk : k < N) : ∃ (n v : Int) (A : Mt), mj_call yM_openOf w F [.inr (.inl 223), .inl (k : Int)] = some (w, rq F n v A, some (.inl (opC F (pl sw) c ne k))) := by
  have me := r.1.2.1.2.2.2.2.2.2.1
  obtain ⟨n, v, A, e⟩ := R_open_run hw r hk ne (Nat.le_refl ne)
  refine ⟨n, v, A, ?_⟩
  rw [c_M_openOf hw, e, l_M_openOf_4 hw, rq_f (by decide) (by decide), me, if_pos (by omega), opC_M]
theorem opC_e {F G : mj_F} {c ne k : Nat} (hk : k < 60) (h : ∀ a q, a ≠ 43 → a ≠ 46 → a ≠ 47 → a ≠ 223 → a ≠ 252 → G a q = F a q) : opC G (pl sw) c ne k = opC F (pl sw) c ne k := by
  have hp := pl_o sw
  exact opC_c (fun j hj => funext fun q => h _ q (by omega) (by omega) (by omega) (by omega) (by omega)) (funext fun q => h 39 q (by decide) (by decide) (by decide) (by decide) (by decide)) (funext fun q => h _ q (by omega) (by omega) (by omega) (by omega) (by omega))
theorem ok_open (hw : wk sw w) {f : mj_F} (r : RR sw f) (x1 : Int) : Ok sw w f yX_open yM_open [.inl x1] := by
  obtain ⟨c, np, ne, st, N, L, nx, d, tp, ed, r⟩ := r
  obtain ⟨⟨hc4, hn8, he16, _, _⟩, ⟨_, xc, mc, xp, mp, xe, me, xs, ms⟩, hL, hE, h0, hg⟩ := r.1
  have xn := r.2.2.1.2.1
  have mn := r.2.2.1.2.2.1
  have hN := r.2.2.1.1
  have mc' : mj_u f 223 0 0 223 2 = (c : Int) := mc
  have mp' : mj_u f 223 0 0 223 3 = (np : Int) := mp
  have me' : mj_u f 223 0 0 223 4 = (ne : Int) := me
  have mn' : mj_u f 223 0 0 223 23 = (N : Int) := mn
  by_cases hV : 0 ≤ x1 ∧ x1 < (N : Int)
  · obtain ⟨k, rfl⟩ : ∃ k : Nat, x1 = (k : Int) := ⟨x1.toNat, by omega⟩
    have hk : k < N := by omega
    obtain ⟨F1, e1, r1, o1⟩ := G_openEdges hw r hk
    have r2 := RX_c (Cor_0 (f := F1)) r1
    obtain ⟨n, v, A, e2⟩ := M_openOf hw r2 hk
    have eo : opC (mj_u F1 223 0 0) (pl sw) c ne k = opC f (pl sw) c ne k := opC_e (by omega) (fun a q h1 h2 h3 h4 _ => by rw [u_o (Or.inl h4)]; exact o1 a q h1 h2 h3)
    refine ⟨F1, rq (mj_u F1 223 0 0) n v A, opC f (pl sw) c ne k, ?_, ?_, c, np, ne, st, N, L, nx, d, tp, ed, RX_c Cor_rq r2⟩
    · simp only [c_X_open hw, X_isNode hw f xn, mj_bi_some, i01]
      rw [if_neg (by omega), e1, mj_bi_some]
    · rw [c_M_open hw, M_in1 hw _ (r2.2.2.1.2.2.1) (by omega), mj_bi_some]
      simp only [i01]
      rw [if_neg (by omega), e2, mj_bi_some, eo]
  · refine Ok_i ⟨c, np, ne, st, N, L, nx, d, tp, ed, r⟩ (F1 := f) (F3 := mj_u f 223 0 0) (v := -1) ?_ (Cor_r _ _) ?_ Cor_0
    · simp only [c_X_open hw, X_isNode hw f xn, mj_bi_some, i01]
      repeat' split
      all_goals first | rfl | (exfalso; omega)
    · simp only [c_M_open hw, M_in1 hw _ mn' (by omega), mj_bi_some, i01]
      repeat' split
      all_goals first | rfl | (exfalso; omega)
theorem ok_stuck (hw : wk sw w) {f : mj_F} (r : RR sw f) : Ok sw w f yX_stuck yM_stuck [] := by
  obtain ⟨c, np, ne, st, N, L, nx, d, tp, ed, r⟩ := r
  have hN := r.2.2.1.1
  -- the class's loop: it ends at the first node that nothing leaves
  have keyX : ∀ m, m ≤ N → (∀ j, j < m → opC f (pl sw) c ne j ≠ 0) → ∃ G, mj_run yX_stuck w f 2 [.inr (.inl 2), .inl 0] [] = mj_run yX_stuck w G 2 [.inr (.inl 2), .inl (m : Int)] [] ∧ RX sw G c np ne st N L nx d tp ed ∧ ∀ a q, a ≠ 43 → a ≠ 46 → a ≠ 47 → G a q = f a q := by
    intro m
    induction m with
    | zero => exact fun _ _ => ⟨f, rfl, r, fun _ _ _ _ _ => rfl⟩
    | succ m ih =>
      intro hm hne
      obtain ⟨G, e, rG, oG⟩ := ih (by omega) (fun j hj => hne j (by omega))
      obtain ⟨G1, e1, r1, o1⟩ := G_openEdges hw rG (show m < N by omega)
      have eo : opC G (pl sw) c ne m = opC f (pl sw) c ne m := opC_e (by omega) (fun a q h1 h2 h3 _ _ => oG a q h1 h2 h3)
      refine ⟨G1, e.trans ?_, r1, fun a q h1 h2 h3 => (o1 a q h1 h2 h3).trans (oG a q h1 h2 h3)⟩
      rw [l_X_stuck_2 hw, rG.2.2.1.2.1, if_neg (by omega), e1, mj_bi_some, eo, if_pos (hne m (by omega)), wS (by omega)]
  have keyM : ∀ H, RX sw H c np ne st N L nx d tp ed → (∀ a q, a ≠ 43 → a ≠ 46 → a ≠ 47 → a ≠ 223 → a ≠ 252 → H a q = f a q) → ∀ m, m ≤ N → (∀ j, j < m → opC f (pl sw) c ne j ≠ 0) → ∃ (n v : Int) (A : Mt), mj_run yM_stuck w H 7 [.inr (.inl 223), .inl 0] [] = mj_run yM_stuck w (rq H n v A) 7 [.inr (.inl 223), .inl (m : Int)] [] := by
    intro H rH oH m
    induction m with
    | zero =>
      intro _ _
      refine ⟨H 223 52, H 223 53, gm 252 62 H, ?_⟩
      rw [rq_self]
      rfl
    | succ m ih =>
      intro hm hne
      obtain ⟨n, v, A, e⟩ := ih (by omega) (fun j hj => hne j (by omega))
      have rq' := RX_c (Cor_rq (f := H) (n := n) (v := v) (A := A)) rH
      obtain ⟨n2, v2, A2, e2⟩ := M_openOf hw rq' (show m < N by omega)
      have eo : opC (rq H n v A) (pl sw) c ne m = opC f (pl sw) c ne m := opC_e (by omega) (fun a q h1 h2 h3 h4 h5 => by rw [rq_o h4 h5]; exact oH a q h1 h2 h3 h4 h5)
      refine ⟨n2, v2, A2, e.trans ?_⟩
      rw [l_M_stuck_7 hw, rq'.2.2.1.2.2.1, if_neg (by omega), e2, mj_bi_some, eo, if_pos (hne m (by omega)), wS (by omega), rq_rq]
  by_cases hex : ∃ k, k < N ∧ opC f (pl sw) c ne k = 0
  · obtain ⟨k, ⟨hk, hkx⟩, hmin⟩ : ∃ k, (k < N ∧ opC f (pl sw) c ne k = 0) ∧ ∀ j, j < k → ¬ (j < N ∧ opC f (pl sw) c ne j = 0) := by
      obtain ⟨k0, h0⟩ := hex
      induction k0 using Nat.strongRecOn with
      | ind k0 ih =>
        by_cases hh : ∃ j, j < k0 ∧ (j < N ∧ opC f (pl sw) c ne j = 0)
        · obtain ⟨j, hj, hj2⟩ := hh
          exact ih j hj hj2
        · exact ⟨k0, h0, fun j hj q => hh ⟨j, hj, q⟩⟩
    have hmin' : ∀ j, j < k → opC f (pl sw) c ne j ≠ 0 := fun j hj q => hmin j hj ⟨by omega, q⟩
    obtain ⟨G, e, rG, oG⟩ := keyX k (by omega) hmin'
    obtain ⟨G1, e1, r1, o1⟩ := G_openEdges hw rG hk
    have eo : opC G (pl sw) c ne k = opC f (pl sw) c ne k := opC_e (by omega) (fun a q h1 h2 h3 _ _ => oG a q h1 h2 h3)
    have r2 := RX_c (Cor_0 (f := G1)) r1
    have o2 : ∀ a q, a ≠ 43 → a ≠ 46 → a ≠ 47 → a ≠ 223 → a ≠ 252 → mj_u G1 223 0 0 a q = f a q := fun a q h1 h2 h3 h4 _ => by rw [u_o (Or.inl h4), o1 a q h1 h2 h3]; exact oG a q h1 h2 h3
    obtain ⟨n, v, A, e2⟩ := keyM _ r2 o2 k (by omega) hmin'
    have rq' := RX_c (Cor_rq (f := mj_u G1 223 0 0) (n := n) (v := v) (A := A)) r2
    obtain ⟨n3, v3, A3, e3⟩ := M_openOf hw rq' hk
    have eo3 : opC (rq (mj_u G1 223 0 0) n v A) (pl sw) c ne k = opC f (pl sw) c ne k := opC_e (by omega) (fun a q h1 h2 h3 h4 h5 => by rw [rq_o h4 h5]; exact o2 a q h1 h2 h3 h4 h5)
    refine ⟨G1, rq (mj_u G1 223 0 0) n3 v3 A3, (k : Int), ?_, ?_, c, np, ne, st, N, L, nx, d, tp, ed, RX_c Cor_rq r2⟩
    · rw [c_X_stuck hw, e, l_X_stuck_2 hw, rG.2.2.1.2.1, if_neg (by omega), e1, mj_bi_some, eo, if_neg (fun q => q hkx)]
    · rw [c_M_stuck hw, e2, l_M_stuck_7 hw, rq'.2.2.1.2.2.1, if_neg (by omega), e3, mj_bi_some, eo3, if_neg (fun q => q hkx), rq_rq]
  · have hno : ∀ j, j < N → opC f (pl sw) c ne j ≠ 0 := fun j hj q => hex ⟨j, hj, q⟩
    obtain ⟨G, e, rG, oG⟩ := keyX N (Nat.le_refl N) hno
    have r2 := RX_c (Cor_0 (f := G)) rG
    have o2 : ∀ a q, a ≠ 43 → a ≠ 46 → a ≠ 47 → a ≠ 223 → a ≠ 252 → mj_u G 223 0 0 a q = f a q := fun a q h1 h2 h3 h4 _ => by rw [u_o (Or.inl h4)]; exact oG a q h1 h2 h3
    obtain ⟨n, v, A, e2⟩ := keyM _ r2 o2 N (Nat.le_refl N) hno
    have rq' := RX_c (Cor_rq (f := mj_u G 223 0 0) (n := n) (v := v) (A := A)) r2
    refine ⟨G, rq (mj_u G 223 0 0) n v A, -2, ?_, ?_, c, np, ne, st, N, L, nx, d, tp, ed, rq'⟩
    · rw [c_X_stuck hw, e, l_X_stuck_2 hw, rG.2.2.1.2.1, if_pos (Int.le_refl _)]
    · rw [c_M_stuck hw, e2, l_M_stuck_7 hw, rq'.2.2.1.2.2.1, if_pos (Int.le_refl _)]
end OP
