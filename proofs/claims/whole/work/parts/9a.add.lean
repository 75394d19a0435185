/-! add, lead. -/
def hpF (F : mj_F) (nx d : Nat) : mj_F := mj_u (mj_u (mj_cpy (mj_u (mj_u F 179 nx (-1)) 182 nx (F 168 1)) 169 0 181 (20 * nx) 20) 178 4 (((nx + 1) % 16 : Nat) : Int)) 178 5 ((d16 d : Nat) : Int)
theorem hpF_o {F : mj_F} {nx d a q : Nat} (h : a ≠ 178 ∧ a ≠ 179 ∧ a ≠ 181 ∧ a ≠ 182) : hpF F nx d a q = F a q := by
  unfold hpF
  rw [u_o (Or.inl h.1), u_o (Or.inl h.1)]
  unfold mj_cpy
  rw [if_neg (fun z => h.2.2.1 z.1), u_o (Or.inl h.2.2.2), u_o (Or.inl h.2.1)]
theorem hpF_178 {F : mj_F} {nx d : Nat} : hpF F nx d 178 4 = (((nx + 1) % 16 : Nat) : Int) ∧ hpF F nx d 178 5 = ((d16 d : Nat) : Int) := by
  unfold hpF
  exact ⟨by rw [u_o (Or.inr (by decide)), u_self], u_self⟩
theorem hpF_179 {F : mj_F} {nx d s : Nat} : hpF F nx d 179 s = if s = nx then -1 else F 179 s := by
  unfold hpF
  rw [u_o (Or.inl (by decide)), u_o (Or.inl (by decide))]
  unfold mj_cpy
  rw [if_neg (fun z => absurd z.1 (by decide)), u_o (Or.inl (by decide))]
  unfold mj_u
  by_cases h : s = nx
  · rw [if_pos ⟨rfl, h⟩, if_pos h]
  · rw [if_neg (fun z => h z.2), if_neg h]
theorem hpF_182 {F : mj_F} {nx d s : Nat} : hpF F nx d 182 s = if s = nx then F 168 1 else F 182 s := by
  unfold hpF
  rw [u_o (Or.inl (by decide)), u_o (Or.inl (by decide))]
  unfold mj_cpy
  rw [if_neg (fun z => absurd z.1 (by decide))]
  by_cases h : s = nx
  · rw [if_pos h, h, u_self]
  · rw [if_neg h, u_o (Or.inr h), u_o (Or.inl (by decide))]
theorem hpF_181 {F : mj_F} {nx d s i : Nat} (hi : i < 20) : hpF F nx d 181 (20 * s + i) = if s = nx then F 169 i else F 181 (20 * s + i) := by
  unfold hpF
  rw [u_o (Or.inl (by decide)), u_o (Or.inl (by decide))]
  unfold mj_cpy
  by_cases h : s = nx
  · rw [if_pos h, h, if_pos ⟨rfl, by omega, by omega⟩, u_o (Or.inl (by decide)), u_o (Or.inl (by decide)), show 0 + (20 * nx + i - 20 * nx) = i by omega]
  · rw [if_neg h, if_neg (by omega), u_o (Or.inl (by decide)), u_o (Or.inl (by decide))]
/-- the relation behind a trace that is changed -/
theorem path_RX {sw : Bool} {f H : mj_F} {c np ne st N L nx d tp : Nat} {ed : Nat → Nat} (r : RX sw f c np ne st N L nx d tp ed) (h1 : ∀ a, cA sw a → a ≠ 168 → a ≠ 169 → a ≠ 178 → a ≠ 179 → a ≠ 181 → a ≠ 182 → a ≠ 234 → a ≠ 235 → H a = f a) (h2 : ∀ q, cM q → q ≠ 18 → H 223 q = f 223 q) (h3 : H 3 1 = f 3 1 ∧ H 3 8 = f 3 8 ∧ H 3 9 = f 3 9) (h37 : H 37 9 = f 37 9) (h170 : H 170 4 = 1) (h178 : H 178 4 = (((nx + 1) % 16 : Nat) : Int) ∧ H 178 5 = ((d16 d : Nat) : Int)) (h18 : H 223 18 = ((d16 d : Nat) : Int)) (h235 : H 235 = kpF f d 235) (h179 : ∀ s, H 179 s = if s = nx then -1 else f 179 s) (h182 : ∀ s, H 182 s = if s = nx then f 168 1 else f 182 s) (h181 : ∀ s i, i < 20 → H 181 (20 * s + i) = if s = nx then f 169 i else f 181 (20 * s + i)) (h234 : ∀ q, q < 104 → H 234 q = f 234 q) {L' : Nat} {ed' : Nat → Nat} (hL' : L' ≤ 20) (n1 : H 168 1 = (L' : Int)) (n2 : H 234 104 = (L' : Int)) (n3 : ∀ i, i < L' → H 169 i = (ed' i : Int) ∧ H 234 (105 + i) = (ed' i : Int)) (n4 : chn f ne st L' ed') : RX sw H c np ne st N L' ((nx + 1) % 16) (d16 d) tp ed' := by
  have hp := pl_o sw
  obtain ⟨ra, rb, rc, rd, re, rf⟩ := r
  have hc4 := ra.1.1
  have hA : ∀ a, cA sw a → a ≠ 168 → a ≠ 169 → ¬ (178 ≤ a ∧ a ≤ 182) → a ≠ 234 → a ≠ 235 → H a = f a := fun a ha b1 b2 b3 b4 b5 => h1 a ha b1 b2 (by omega) (by omega) (by omega) (by omega) b4 b5
  have hpl : ∀ k, k ≤ 12 → H (pl sw + k) = f (pl sw + k) := fun k hk => hA _ (cA_pl hk) (by omega) (by omega) (by omega) (by omega) (by omega)
  have hm : ∀ a, 224 ≤ a → a ≤ 240 → a ≠ 234 → a ≠ 235 → H a = f a := fun a b1 b2 b3 b4 => hA a (cA_m ⟨b1, b2⟩) (by omega) (by omega) (by omega) b3 b4
  obtain ⟨hL, l1, l2, l3, l4, _⟩ := rd
  have hnx := re.1
  have hd := re.2.1
  have hd0 : d16 d = if d = 16 then 16 else d + 1 := rfl
  refine ⟨RA_c hpl (fun q b1 b2 => h2 q (Or.inl ⟨b1, b2⟩) (by omega)) (fun a b1 b2 => hm a b1 (by omega) (by omega) (by omega)) ra, ?_, RC_c hpl h37 (h2 23 (by unfold cM; omega) (by omega)) (fun a b1 b2 => hA a (cA_g ⟨b1, b2⟩) (by omega) (by omega) (by omega) (by omega) (by omega)) (fun a b1 b2 => hA a (cA_n ⟨b1, by omega⟩) (by omega) (by omega) (by omega) (by omega) (by omega)) (fun a b1 b2 b3 => hm a (by omega) (by omega) (by omega) (by omega)) rc, ⟨hL', n1, n2, n3, chn_c (hm 228 (by omega) (by omega) (by omega) (by omega)) (hm 229 (by omega) (by omega) (by omega) (by omega)) n4, fun z => by rw [h170] at z; exact absurd z (by decide)⟩, RE_push (off := d + 1 - d16 d) hc4 re hd0 (by unfold d16; split <;> omega) h178.1 h178.2 h18 (fun k q hk hq => kpF_row (f := f) hd hd0 (by unfold d16; split <;> omega) h235 hk hq) (fun s hs hne => ⟨by rw [h179, if_neg hne], by rw [h182, if_neg hne], hA _ (cA_z (by omega)) (by omega) (by omega) (by omega) (by omega) (by omega), hA _ (cA_z (by omega)) (by omega) (by omega) (by omega) (by omega) (by omega)⟩) (fun s i hs hne hi => by rw [h181 s i hi, if_neg hne]) (hm 228 (by omega) (by omega) (by omega) (by omega)) (hm 229 (by omega) (by omega) (by omega) (by omega)) ?_, ?_⟩
  · intro t ht
    have b := rb t ht
    refine ⟨?_, TS_e b.2 ?_ (h234 _ (by omega)) (fun i j hi hj => ?_) (fun i j hi hj => h234 _ (by omega))⟩
    · rw [hA _ (cA_z (by omega)) (by omega) (by omega) (by omega) (by omega) (by omega)]; exact b.1
    · show H (215 + 2 * t) 2 = _
      rw [hA _ (cA_z (by omega)) (by omega) (by omega) (by omega) (by omega) (by omega)]
    · show H (216 + 2 * t) (6 * i + j) = f (216 + 2 * t) (6 * i + j)
      rw [hA _ (cA_z (by omega)) (by omega) (by omega) (by omega) (by omega) (by omega)]
  · refine Or.inr ⟨by rw [h179, if_pos rfl], fun q hq => (h234 q hq).symm, L, ed, hL, by rw [h182, if_pos rfl]; exact l1, l2, fun i hi => ⟨by rw [h181 nx i (by omega), if_pos rfl]; exact (l3 i hi).1, (l3 i hi).2⟩, chn_c (hm 228 (by omega) (by omega) (by omega) (by omega)) (hm 229 (by omega) (by omega) (by omega) (by omega)) l4⟩
  · obtain ⟨f1, f2, f3, f4, f5, f6⟩ := rf
    refine ⟨f1, h3.1.trans f2, (h2 25 (by unfold cM; omega) (by omega)).trans f3, ?_, ?_, ?_⟩
    · rw [hA 4 (by unfold cA; omega) (by omega) (by omega) (by omega) (by omega) (by omega), hm 240 (by omega) (by omega) (by omega) (by omega)]; exact f4
    · rw [h3.2.1, h2 31 (by unfold cM; omega) (by omega)]; exact f5
    · rw [h3.2.2, h2 32 (by unfold cM; omega) (by omega)]; exact f6
theorem kpF_235 {f g : mj_F} {d : Nat} (h4 : ∀ q, g 234 q = f 234 q) (h5 : ∀ q, g 235 q = f 235 q) {q : Nat} : kpF g d 235 q = kpF f d 235 q := by
  unfold kpF
  by_cases hd : d = 16
  · rw [if_pos hd, if_pos hd, u_o (Or.inl (by decide)), u_o (Or.inl (by decide))]
    unfold cpn
    by_cases hq : (235 : Nat) = 235 ∧ 125 * 15 ≤ q ∧ q < 125 * 15 + 125
    · rw [if_pos hq, if_pos hq, u_o (Or.inl (by decide)), u_o (Or.inl (by decide))]
      unfold shf
      rw [if_neg (fun z => absurd z.1 (by decide)), if_neg (fun z => absurd z.1 (by decide)), h4]
    · rw [if_neg hq, if_neg hq, u_o (Or.inl (by decide)), u_o (Or.inl (by decide))]
      unfold shf
      by_cases hs : (235 : Nat) = 235 ∧ q + 125 < 2000
      · rw [if_pos hs, if_pos hs, h5]
      · rw [if_neg hs, if_neg hs, h5]
  · rw [if_neg hd, if_neg hd, u_o (Or.inl (by decide)), u_o (Or.inl (by decide))]
    unfold cpn
    by_cases hq : (235 : Nat) = 235 ∧ 125 * d ≤ q ∧ q < 125 * d + 125
    · rw [if_pos hq, if_pos hq, h4]
    · rw [if_neg hq, if_neg hq, h5]
section PA
variable {sw : Bool} {w : mj_W}
theorem M_keepsF (hw : wk sw w) (F : mj_F) {d : Nat} (hd : F 223 18 = (d : Int)) (h16 : d ≤ 16) : mj_call yM_keeps w F [.inr (.inl 223)] = some (w, kpF F d, none) := by
  unfold kpF
  by_cases h : d = 16
  · rw [if_pos h]
    exact M_keeps_16 hw F (by rw [hd, h]; rfl)
  · rw [if_neg h]
    exact M_keeps hw F hd (by omega)
theorem X_changePath (hw : wk sw w) (F : mj_F) {nx d : Nat} (h4 : F 178 4 = (nx : Int)) (h5 : F 178 5 = (d : Int)) (hnx : nx < 16) (hd : d ≤ 16) : mj_call yX_changePath w F [.inr (.inl 2)] = some (w, mj_u (hpF F nx d) 170 4 1, none) := by
  have g : (0 : Int) ≤ (nx : Int) ∧ (nx : Int) < ((16 : Nat) : Int) := ⟨by omega, by omega⟩
  have e0 : ∀ v, mj_u F 179 nx v 178 4 = (nx : Int) := fun v => by rw [u_o (Or.inl (by decide)), h4]
  have e1 : ∀ v, mj_u F 179 nx v 168 1 = F 168 1 := fun v => u_o (Or.inl (by decide))
  have e2 : ∀ v u, mj_u (mj_u F 179 nx v) 182 nx u 178 4 = (nx : Int) := fun v u => by rw [u_o (Or.inl (by decide)), e0]
  have g2 : (0 : Int) ≤ (20 : Int) ∧ 0 ≤ (0 : Int) ∧ 0 ≤ ((20 * nx : Nat) : Int) ∧ (0 : Int) + (20 : Int) ≤ ((20 : Nat) : Int) ∧ ((20 * nx : Nat) : Int) + (20 : Int) ≤ ((320 : Nat) : Int) := ⟨by omega, by omega, by omega, by omega, by omega⟩
  rw [c_X_changePath hw, c_H_keepPath hw]
  simp only [h4, Int.toNat_natCast, e0, e1, e2, mj_gd_pos g, w20 hnx, mj_gd_pos g2]
  have hgo := H_goOn hw (mj_cpy (mj_u (mj_u F 179 nx (-1)) 182 nx (F 168 1)) 169 (0 : Int).toNat 181 (20 * nx) (20 : Int).toNat) (nx := nx) (d := d) (by unfold mj_cpy; rw [if_neg (fun z => absurd z.1 (by decide)), e2]) (by unfold mj_cpy; rw [if_neg (fun z => absurd z.1 (by decide)), u_o (Or.inl (by decide)), u_o (Or.inl (by decide)), h5]) hnx hd
  refine (congrArg (fun z => mj_bu (mj_bu z _) _) hgo).trans ?_
  rw [mj_bu_some, mj_bu_some]
  rfl
theorem P_endIn (hw : wk sw w) {f : mj_F} {c np ne st L : Nat} {ed : Nat → Nat} (ra : RA sw f c np ne st) (hL : L ≤ 20) (l1 : f 168 1 = (L : Int)) (l3 : ∀ i, i < L → f 169 i = (ed i : Int)) (hc : chn f ne st L ed) : mj_call yP_endIn w f [.inr (.inl 168), .inr (.inl (pl sw))] = some (w, f, some (.inl (pla f ed st L : Int))) := by
  have he16 := ra.1.2.2.1
  rw [c_P_endIn hw _ _ (pl_pn sw), l1]
  cases L with
  | zero =>
    rw [if_neg (by decide), ra.2.1.2.2.2.2.2.2.2.1]
    rfl
  | succ L =>
    have h := (hc L (by omega)).1
    obtain ⟨_, _, a, b, ha, hb, q1, q2, q3, q4⟩ := ra.2.2.2.1 (ed L) h
    rw [if_pos (by omega), wP (by omega), mj_gd_pos ⟨by omega, by omega⟩, Int.toNat_natCast, l3 L (by omega), mj_gd_pos ⟨by omega, by omega⟩, Int.toNat_natCast, q3]
    show some (w, f, some (Sum.inl (b : Int))) = some (w, f, some (Sum.inl ((f 229 (ed L)).toNat : Int)))
    rw [q4, Int.toNat_natCast]
theorem w105L {L : Nat} (h : L ≤ 20) : mj_w (105 + (L : Int)) = ((105 + L : Nat) : Int) := by unfold mj_w; omega
theorem w105m {L : Nat} (h : L ≤ 20) : mj_w (((105 + (L + 1) : Nat) : Int) - 1) = ((105 + L : Nat) : Int) := by unfold mj_w; omega
theorem ok_add (hw : wk sw w) {f : mj_F} (r : RR sw f) (x1 : Int) : Ok sw w f yX_add yM_add [.inl x1] := by
  obtain ⟨c, np, ne, st, N, L, nx, d, tp, ed, r⟩ := r
  obtain ⟨⟨hc4, hn8, he16, _, _⟩, ⟨_, xc, mc, xp, mp, xe, me, xs, ms⟩, hL, hE, h0, hg⟩ := r.1
  have xn := r.2.2.1.2.1
  have mn := r.2.2.1.2.2.1
  have hN := r.2.2.1.1
  have mc' : mj_u f 223 0 0 223 2 = (c : Int) := mc
  have mp' : mj_u f 223 0 0 223 3 = (np : Int) := mp
  have me' : mj_u f 223 0 0 223 4 = (ne : Int) := me
  have mn' : mj_u f 223 0 0 223 23 = (N : Int) := mn
  by_cases hV : 0 ≤ x1 ∧ x1 < (ne : Int)
  · obtain ⟨e, rfl⟩ : ∃ e : Nat, x1 = (e : Int) := ⟨x1.toNat, by omega⟩
    obtain ⟨hL20, l1, l2, l3, l4, _⟩ := r.2.2.2.1
    obtain ⟨hnx, hd16, e4, e5, e18, _⟩ := r.2.2.2.2.1
    have hp0 := pl_o sw
    obtain ⟨_, _, fa, fb, hfa, hfb, q1, q2, q3, q4⟩ := hE e (by omega)
    have ePe := P_endIn hw r.1 hL20 l1 (fun i hi => (l3 i hi).1) l4
    have refA : ∀ K : mj_F, K 234 = f 234 → K 229 = f 229 → K 228 = f 228 → K 223 5 = f 223 5 → K 223 4 = f 223 4 → mj_call yM_add w K [.inr (.inl 223), .inl (e : Int)] = if (fa : Int) = (pla f ed st L : Int) then (if ¬ (L : Int) = 20 then mj_bu (mj_call yM_keeps w (mj_u K 223 0 0) [.inr (.inl 223)]) (fun f8 => mj_bi (mj_call yM_traced w (mj_u (mj_u f8 234 (105 + L) (e : Int)) 234 104 (mj_w ((mj_u f8 234 (105 + L) (e : Int)) 234 104 + 1))) [.inr (.inl 223)]) (fun f12 v13 => some (w, f12, some (.inl v13)))) else some (w, mj_u K 223 0 0, some (.inl (-3)))) else some (w, mj_u K 223 0 0, some (.inl (-2))) := by
      intro K k1 k2 k3 k4 k5
      have m234 : ∀ q, mj_u K 223 0 0 234 q = f 234 q := fun q => by rw [mu0a (by decide), k1]
      have m229 : ∀ q, mj_u K 223 0 0 229 q = f 229 q := fun q => by rw [mu0a (by decide), k2]
      have m228 : ∀ q, mj_u K 223 0 0 228 q = f 228 q := fun q => by rw [mu0a (by decide), k3]
      have m5 : mj_u K 223 0 0 223 5 = (st : Int) := by rw [mu0 (by decide), k4]; exact ms
      have m4 : mj_u K 223 0 0 223 4 = (ne : Int) := by rw [mu0 (by decide), k5]; exact me
      have hge : (0 : Int) ≤ (e : Int) ∧ (e : Int) < ((16 : Nat) : Int) := ⟨by omega, by omega⟩
      have hg5 : (0 : Int) ≤ ((105 + L : Nat) : Int) ∨ True := Or.inr trivial
      rw [c_M_add hw, M_isEdge hw _ m4 (by omega), mj_bi_some]
      simp only [i01]
      rw [if_pos (by omega), c_M_traced hw, mj_bi_some, show (104 : Int).toNat = 104 from rfl, m234, l2, mj_gd_pos hge, Int.toNat_natCast, m228, q2]
      by_cases hL0 : L = 0
      · subst hL0
        have hpla : pla f ed st 0 = st := rfl
        rw [if_neg (by decide), m5, w105L (by omega), hpla]
        by_cases c1 : (fa : Int) = (st : Int)
        · rw [if_pos c1, if_pos c1]
          by_cases h20 : ¬ ((0 : Nat) : Int) = 20
          · rw [if_pos h20, if_pos h20]
            refine congrArg (mj_bu _) (funext fun f8 => ?_)
            rw [mj_gd_pos ⟨by omega, by omega⟩, Int.toNat_natCast]
          · rw [if_neg h20, if_neg h20]
        · rw [if_neg c1, if_neg c1]
      · obtain ⟨L', rfl⟩ : ∃ L', L = L' + 1 := ⟨L - 1, by omega⟩
        have hl := (l3 L' (by omega)).2
        have hle := (l4 L' (by omega)).1
        obtain ⟨_, _, ga, gb, hga, hgb, g1, g2, g3, g4⟩ := hE (ed L') hle
        have hpl' : (pla f ed st (L' + 1) : Int) = (gb : Int) := by
          show ((f 229 (ed L')).toNat : Int) = _
          rw [g4, Int.toNat_natCast]
        rw [if_pos (by omega), w105L hL20, w105m (by omega), mj_gd_pos ⟨by omega, by omega⟩, Int.toNat_natCast, m234, hl, mj_gd_pos ⟨by omega, by omega⟩, Int.toNat_natCast, m229, g4, hpl', Int.toNat_natCast]
        by_cases c1 : (fa : Int) = (gb : Int)
        · rw [if_pos c1, if_pos c1]
          by_cases h20 : ¬ ((L' + 1 : Nat) : Int) = 20
          · rw [if_pos h20, if_pos h20]
            refine congrArg (mj_bu _) (funext fun f8 => ?_)
            rw [mj_gd_pos ⟨by omega, by omega⟩]
          · rw [if_neg h20, if_neg h20]
        · rw [if_neg c1, if_neg c1]
    by_cases hend : (fa : Int) = (pla f ed st L : Int)
    · by_cases h20 : L = 20
      · have eM := refA f rfl rfl rfl rfl rfl
        rw [if_pos hend, if_neg (by omega)] at eM
        refine Ok_i ⟨c, np, ne, st, N, L, nx, d, tp, ed, r⟩ (F1 := f) (F3 := mj_u f 223 0 0) (v := -3) ?_ (Cor_r _ _) eM Cor_0
        simp only [c_X_add hw, X_isEdge hw f xe, mj_bi_some, i01]
        rw [if_pos (by omega), mj_gd_pos ⟨by omega, by omega⟩, Int.toNat_natCast, ePe, mj_bi_some, q1, if_pos hend, l1, if_neg (by omega)]
      · obtain ⟨K, hK⟩ : ∃ K, K = mj_u (mj_u (mj_u (hpF f nx d) 170 4 1) 169 L (e : Int)) 168 1 ((L + 1 : Nat) : Int) := ⟨_, rfl⟩
        have kO : ∀ a q, a ≠ 168 → a ≠ 169 → a ≠ 170 → ¬ (178 ≤ a ∧ a ≤ 182) → K a q = f a q := fun a q b1 b2 b3 b4 => by
          rw [hK, u_o (Or.inl b1), u_o (Or.inl b2), u_o (Or.inl b3), hpF_o (by omega)]
        have eX : mj_call yX_add w f [.inr (.inl 2), .inl (e : Int)] = some (w, K, some (.inl ((L + 1 : Nat) : Int))) := by
          have h168 : mj_u (hpF f nx d) 170 4 1 168 1 = (L : Int) := by rw [u_o (Or.inl (by decide)), hpF_o (by omega)]; exact l1
          have h168' : ∀ v, mj_u (mj_u (hpF f nx d) 170 4 1) 169 L v 168 1 = (L : Int) := fun v => by rw [u_o (Or.inl (by decide))]; exact h168
          simp only [c_X_add hw, X_isEdge hw f xe, mj_bi_some, i01]
          rw [if_pos (by omega), mj_gd_pos ⟨by omega, by omega⟩, Int.toNat_natCast, ePe, mj_bi_some, q1, if_pos hend, l1, if_pos (by omega), X_changePath hw f e4 e5 hnx hd16, mj_bu_some, h168, mj_gd_pos ⟨by omega, by omega⟩, Int.toNat_natCast, h168', wS (by omega), u_self, ← hK]
        have eM := refA K (funext fun q => kO 234 q (by decide) (by decide) (by decide) (by decide)) (funext fun q => kO 229 q (by decide) (by decide) (by decide) (by decide)) (funext fun q => kO 228 q (by decide) (by decide) (by decide) (by decide)) (kO 223 5 (by decide) (by decide) (by decide) (by decide)) (kO 223 4 (by decide) (by decide) (by decide) (by decide))
        have k18 : mj_u K 223 0 0 223 18 = (d : Int) := by rw [mu0 (by decide), kO 223 18 (by decide) (by decide) (by decide) (by decide)]; exact e18
        have hkp : ∀ a q, a ≠ 235 → a ≠ 223 → kpF (mj_u K 223 0 0) d a q = K a q := fun a q b1 b2 => by rw [kpF_o b1 (Or.inl b2), mu0a b2]
        have k234 : ∀ q, kpF (mj_u K 223 0 0) d 234 q = f 234 q := fun q => by rw [hkp 234 q (by decide) (by decide), kO 234 q (by decide) (by decide) (by decide) (by decide)]
        rw [if_pos hend, if_pos (by omega), M_keepsF hw _ k18 hd16, mj_bu_some, c_M_traced hw, mj_bi_some, show (104 : Int).toNat = 104 from rfl, u_o (Or.inr (by omega)), k234, l2, wS (by omega), u_self] at eM
        obtain ⟨H, hH⟩ : ∃ H, H = mj_u (mj_u (kpF (mj_u K 223 0 0) d) 234 (105 + L) (e : Int)) 234 104 ((L + 1 : Nat) : Int) := ⟨_, rfl⟩
        rw [← hH] at eM
        have hHo : ∀ a q, a ≠ 234 → a ≠ 235 → a ≠ 223 → H a q = K a q := fun a q b1 b2 b3 => by rw [hH, u_o (Or.inl b1), u_o (Or.inl b1), hkp a q b2 b3]
        have hHf : ∀ a q, a ≠ 168 → a ≠ 169 → a ≠ 170 → ¬ (178 ≤ a ∧ a ≤ 182) → a ≠ 234 → a ≠ 235 → a ≠ 223 → H a q = f a q := fun a q b1 b2 b3 b4 b5 b6 b7 => (hHo a q b5 b6 b7).trans (kO a q b1 b2 b3 b4)
        have hK8 : ∀ a q, 178 ≤ a → a ≤ 182 → H a q = hpF f nx d a q := fun a q b1 b2 => by rw [hHo a q (by omega) (by omega) (by omega), hK, u_o (Or.inl (by omega)), u_o (Or.inl (by omega)), u_o (Or.inl (by omega))]
        refine ⟨K, H, ((L + 1 : Nat) : Int), eX, eM, c, np, ne, st, N, L + 1, (nx + 1) % 16, d16 d, tp, fun i => if i = L then e else ed i, ?_⟩
        refine path_RX r (fun a ha b1 b2 b3 b4 b5 b6 b7 b8 => ?_) (fun q hq hn => ?_) ⟨hHf 3 1 (by decide) (by decide) (by decide) (by decide) (by decide) (by decide) (by decide), hHf 3 8 (by decide) (by decide) (by decide) (by decide) (by decide) (by decide) (by decide), hHf 3 9 (by decide) (by decide) (by decide) (by decide) (by decide) (by decide) (by decide)⟩ (hHf 37 9 (by decide) (by decide) (by decide) (by decide) (by decide) (by decide) (by decide)) ?_ ⟨by rw [hK8 178 4 (by decide) (by decide)]; exact hpF_178.1, by rw [hK8 178 5 (by decide) (by decide)]; exact hpF_178.2⟩ ?_ ?_ (fun s => by rw [hK8 179 s (by decide) (by decide)]; exact hpF_179) (fun s => by rw [hK8 182 s (by decide) (by decide)]; exact hpF_182) (fun s i hi => by rw [hK8 181 _ (by decide) (by decide)]; exact hpF_181 hi) (fun q hq => by rw [hH, u_o (Or.inr (by omega)), u_o (Or.inr (by omega)), k234]) (by omega) ?_ ?_ (fun i hi => ⟨?_, ?_⟩) (fun i hi => ?_)
        · by_cases hb : 178 ≤ a ∧ a ≤ 182
          · have h180 : a = 180 := by omega
            subst h180
            exact funext fun q => by rw [hK8 180 q (by decide) (by decide), hpF_o (by omega)]
          · exact funext fun q => hHf a q b1 b2 (by unfold cA at ha; omega) hb b7 b8 (by unfold cA at ha; omega)
        · rw [hH, u_o (Or.inl (by decide)), u_o (Or.inl (by decide)), kpF_o (by decide) (Or.inr hn), mu0 (by unfold cM at hq; omega), kO 223 q (by decide) (by decide) (by decide) (by decide)]
        · rw [hHo 170 4 (by decide) (by decide) (by decide), hK, u_o (Or.inl (by decide)), u_o (Or.inl (by decide)), u_self]
        · rw [hH, u_o (Or.inl (by decide)), u_o (Or.inl (by decide)), kpF_18]; rfl
        · funext q
          rw [hH, u_o (Or.inl (by decide)), u_o (Or.inl (by decide))]
          exact kpF_235 (fun q => by rw [mu0a (by decide), kO 234 q (by decide) (by decide) (by decide) (by decide)]) (fun q => by rw [mu0a (by decide), kO 235 q (by decide) (by decide) (by decide) (by decide)])
        · rw [hHo 168 1 (by decide) (by decide) (by decide), hK, u_self]
        · rw [hH, u_self]
        · rw [hHo 169 i (by decide) (by decide) (by decide), hK, u_o (Or.inl (by decide))]
          by_cases hil : i = L
          · rw [hil, u_self, if_pos rfl]
          · rw [u_o (Or.inr hil), u_o (Or.inl (by decide)), hpF_o (by omega), if_neg hil]
            exact (l3 i (by omega)).1
        · rw [hH, u_o (Or.inr (by omega))]
          by_cases hil : i = L
          · rw [hil, u_self, if_pos rfl]
          · rw [u_o (Or.inr (by omega)), k234, if_neg hil]
            exact (l3 i (by omega)).2
        · have ep : pla f (fun i => if i = L then e else ed i) st i = pla f ed st i := pla_ed i (fun j hj => if_neg (by omega))
          rw [ep]
          by_cases hil : i = L
          · rw [if_pos hil]
            exact ⟨by omega, by rw [q2, hil]; exact hend⟩
          · rw [if_neg hil]
            exact l4 i (by omega)
    · have eM := refA f rfl rfl rfl rfl rfl
      rw [if_neg hend] at eM
      refine Ok_i ⟨c, np, ne, st, N, L, nx, d, tp, ed, r⟩ (F1 := f) (F3 := mj_u f 223 0 0) (v := -2) ?_ (Cor_r _ _) eM Cor_0
      simp only [c_X_add hw, X_isEdge hw f xe, mj_bi_some, i01]
      rw [if_pos (by omega), mj_gd_pos ⟨by omega, by omega⟩, Int.toNat_natCast, ePe, mj_bi_some, q1, if_neg hend]
  · refine Ok_i ⟨c, np, ne, st, N, L, nx, d, tp, ed, r⟩ (F1 := f) (F3 := mj_u f 223 0 0) (v := -1) ?_ (Cor_r _ _) ?_ Cor_0
    · simp only [c_X_add hw, X_isEdge hw f xe, mj_bi_some, i01]
      repeat' split
      all_goals first | rfl | (exfalso; omega)
    · simp only [c_M_add hw, M_isEdge hw _ me' (by omega), mj_bi_some, i01]
      repeat' split
      all_goals first | rfl | (exfalso; omega)
end PA
