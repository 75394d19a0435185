/-! A table is settled, on both sides. -/
theorem rem16_all : ∀ a : Fin 40, mj_rem (a.val : Int) 16 = ((a.val % 16 : Nat) : Int) := by decide +kernel
theorem rem16 {a : Nat} (h : a < 40) : mj_rem (a : Int) 16 = ((a % 16 : Nat) : Int) := rem16_all ⟨a, h⟩
theorem wA {a b : Nat} (h : a + b < 2000000000) : mj_w ((a : Int) + (b : Int)) = ((a + b : Nat) : Int) := by unfold mj_w; omega
theorem stq_in {f : mj_F} {t n : Nat} {A : Mt} {i j : Nat} (hn : n ≤ 5) (hi : i < n) (hj : j < n) : stq f t n n 0 A 234 (25 * t + 5 * i + j) = A i j := by
  have e1 : (25 * t + 5 * i + j - 25 * t) / 5 = i := by omega
  have e2 : (25 * t + 5 * i + j - 25 * t) % 5 = j := by omega
  unfold stq
  rw [e1, e2, if_pos ⟨rfl, by omega, by omega, Or.inl ⟨hi, hj⟩⟩]
theorem stq_o {f : mj_F} {t n k l : Nat} {A : Mt} {x q : Nat} (h : x ≠ 234 ∨ ¬ (25 * t ≤ q ∧ q < 25 * t + 25)) : stq f t n k l A x q = f x q := by
  unfold stq
  rw [if_neg (by omega)]
def d16 (d : Nat) : Nat := if d = 16 then 16 else d + 1
theorem d16_le {d : Nat} (h : d ≤ 16) : d16 d ≤ 16 := by unfold d16; split <;> omega
def hkF (F : mj_F) (nx d t : Nat) : mj_F := mj_u (mj_u (zs (183 + 2 * nx) (mj_u F 179 nx (t : Int)) (F (215 + 2 * t) 1) (F (215 + 2 * t) 2) (gm (216 + 2 * t) 6 F)) 178 4 (((nx + 1) % 16 : Nat) : Int)) 178 5 ((d16 d : Nat) : Int)
def kzF (F : mj_F) (nx d t : Nat) : mj_F := zs (215 + 2 * t) (hkF F nx d t) (F 32 1) (F 32 2) (gm 33 6 F)
section SE
variable {sw : Bool} {w : mj_W}
theorem zn215 {t : Nat} (ht : t < 4) : zn (215 + 2 * t) = true := by
  have := zz31 (j := (t : Int)) ⟨by omega, by omega⟩
  rw [Int.toNat_natCast] at this
  exact this
theorem zn183 {t : Nat} (ht : t < 16) : zn (183 + 2 * t) = true := by
  have := zz180 (j := (t : Int)) ⟨by omega, by omega⟩
  rw [Int.toNat_natCast] at this
  exact this
theorem zn48 {t : Nat} (ht : t < 60) : zn (48 + 2 * t) = true := by
  have := zz38 (j := (t : Int)) ⟨by omega, by omega⟩
  rw [Int.toNat_natCast] at this
  exact this
theorem H_goOn (hw : wk sw w) (F : mj_F) {nx d : Nat} (h4 : F 178 4 = (nx : Int)) (h5 : F 178 5 = (d : Int)) (hnx : nx < 16) (hd : d ≤ 16) : mj_call yH_goOn w F [.inr (.inl 178)] = some (w, mj_u (mj_u F 178 4 (((nx + 1) % 16 : Nat) : Int)) 178 5 ((d16 d : Nat) : Int), none) := by
  have e1 : mj_w ((nx : Int) + 1) = ((nx + 1 : Nat) : Int) := wS (by omega)
  have e2 : mj_w ((d : Int) + 1) = ((d + 1 : Nat) : Int) := wS (by omega)
  have e3 : (if 16 < ((d + 1 : Nat) : Int) then (16 : Int) else ((d + 1 : Nat) : Int)) = ((d16 d : Nat) : Int) := by
    unfold d16
    by_cases h : d = 16
    · rw [if_pos (by omega), if_pos h]; rfl
    · rw [if_neg (by omega), if_neg h]
  rw [c_H_goOn hw, mj_gd_pos (by decide), h4, e1, rem16 (by omega), u_o (Or.inr (by decide)), h5, e2, e3]
theorem H_keepTable (hw : wk sw w) (F : mj_F) {nx d t : Nat} (h4 : F 178 4 = (nx : Int)) (h5 : F 178 5 = (d : Int)) (hnx : nx < 16) (hd : d ≤ 16) (ht : t < 4) (hv : F (215 + 2 * t) 2 = 0 ∨ F (215 + 2 * t) 2 = 1) : mj_call yH_keepTable w F [.inr (.inl 178), .inl (t : Int), .inr (.inl (215 + 2 * t))] = some (w, hkF F nx d t, none) := by
  have g : (0 : Int) ≤ (nx : Int) ∧ (nx : Int) < ((16 : Nat) : Int) := ⟨by omega, by omega⟩
  have e0 : ∀ v, mj_u F 179 nx v 178 4 = (nx : Int) := fun v => by rw [u_o (Or.inl (by decide)), h4]
  have e1 : ∀ q v, mj_u F 179 nx v (215 + 2 * t) q = F (215 + 2 * t) q := fun q v => u_o (Or.inl (by omega))
  have e2 : ∀ v, gm (215 + 2 * t + 1) 6 (mj_u F 179 nx v) = gm (216 + 2 * t) 6 F := fun v => by
    unfold gm
    funext i j
    rw [u_o (Or.inl (by omega)), show 215 + 2 * t + 1 = 216 + 2 * t by omega]
  rw [c_H_keepTable hw _ _ _ (zn215 ht)]
  simp only [h4, Int.toNat_natCast, e0, mj_gd_pos g]
  rw [Z_become hw (zn183 hnx) (zn215 ht) (by omega) _ (by rw [e1]; exact hv), mj_bu_some, H_goOn hw _ (nx := nx) (d := d) (by rw [zs_o (by omega) (by omega), e0]) (by rw [zs_o (by omega) (by omega), u_o (Or.inl (by decide)), h5]) hnx hd, mj_bu_some, e1, e1, e2]
  rfl
theorem X_settle_far (hw : wk sw w) (F : mj_F) {n : Nat} (hF : F 32 1 = (n : Int)) (hn : n ≤ 6) (t : Int) (hf : F 32 2 = 0 ∧ byM n 400 (gm 33 6 F) = true) : mj_call yX_settle w F [.inr (.inl 2), .inl t] = some (w, F, some (.inl (-2))) := by
  rw [c_X_settle hw, Z_goesBeyond hw zn32 F hF hn, mj_bi_some, if_pos hf, if_neg (by decide)]
theorem hkF_o {F : mj_F} {nx d t a q : Nat} (hnx : nx < 16) (h : a ≠ 178 ∧ a ≠ 179 ∧ a ≠ 183 + 2 * nx ∧ a ≠ 184 + 2 * nx) : hkF F nx d t a q = F a q := by
  unfold hkF
  rw [u_o (Or.inl h.1), u_o (Or.inl h.1), zs_o h.2.2.1 (by omega), u_o (Or.inl h.2.1)]
theorem kzF_o {F : mj_F} {nx d t a q : Nat} (hnx : nx < 16) (ht : t < 4) (h : a ≠ 178 ∧ a ≠ 179 ∧ a ≠ 183 + 2 * nx ∧ a ≠ 184 + 2 * nx ∧ a ≠ 215 + 2 * t ∧ a ≠ 216 + 2 * t) : kzF F nx d t a q = F a q := by
  unfold kzF
  rw [zs_o h.2.2.2.2.1 (by omega), hkF_o hnx ⟨h.1, h.2.1, h.2.2.1, h.2.2.2.1⟩]
theorem X_settle_ok (hw : wk sw w) (F : mj_F) {n nx d t : Nat} (hF : F 32 1 = (n : Int)) (hn : n ≤ 6) (h4 : F 178 4 = (nx : Int)) (h5 : F 178 5 = (d : Int)) (hnx : nx < 16) (hd : d ≤ 16) (ht : t < 4) (hv : F (215 + 2 * t) 2 = 0 ∨ F (215 + 2 * t) 2 = 1) (hv2 : F 32 2 = 0 ∨ F 32 2 = 1) (hf : ¬ (F 32 2 = 0 ∧ byM n 400 (gm 33 6 F) = true)) : mj_call yX_settle w F [.inr (.inl 2), .inl (t : Int)] = some (w, kzF F nx d t, some (.inl (if F 32 2 = 0 then 1 else 0))) := by
  have g : (0 : Int) ≤ (t : Int) ∧ (t : Int) < ((4 : Nat) : Int) := ⟨by omega, by omega⟩
  have e1 : ∀ q, hkF F nx d t 32 q = F 32 q := fun q => hkF_o hnx (by omega)
  have e2 : gm (32 + 1) 6 (hkF F nx d t) = gm 33 6 F := by
    unfold gm
    funext i j
    exact hkF_o hnx (by omega)
  rw [c_X_settle hw, Z_goesBeyond hw zn32 F hF hn, mj_bi_some, if_neg hf, if_pos rfl, mj_gd_pos g, Int.toNat_natCast, H_keepTable hw F h4 h5 hnx hd ht hv, mj_bu_some, mj_gd_pos g, Z_become hw (zn215 ht) zn32 (by omega) _ (by rw [e1]; exact hv2), mj_bu_some, e1, e1, e2]
  have e3 : zs (215 + 2 * t) (hkF F nx d t) (F 32 1) (F 32 2) (gm 33 6 F) 32 2 = F 32 2 := by rw [zs_o (by omega) (by omega), e1]
  rw [e3]
  by_cases h0 : F 32 2 = 0
  · rw [if_pos h0, if_pos h0]; rfl
  · rw [if_neg h0, if_neg h0]; rfl
/-- the relation behind a table that is settled -/
theorem settle_RX {f F G : mj_F} {c np ne st N L nx d tp t : Nat} {ed : Nat → Nat} (r : RX sw f c np ne st N L nx d tp ed) (hc : Cor sw f F) (ht : t < 4) (h1 : F 32 1 = ((c + 1 : Nat) : Int)) {v : Int} {B : Mt} (hT : TS (c + 1) 802 (F 32 2, gm 33 6 F) (v, B)) (hG : Cor sw (kzF F nx d t) G) : RX sw (mj_u (stq (kpF G d) t (c + 1) (c + 1) 0 B) 234 (100 + t) (if v = 0 then 0 else 1)) c np ne st N L ((nx + 1) % 16) (d16 d) tp ed := by
  obtain ⟨ra, rb, rc, rd, re, rf⟩ := RX_c hc r
  have hp := pl_o sw
  have hc4 : c ≤ 4 := ra.1.1
  obtain ⟨hnx, hd, e4, e5, e18, eK⟩ := re
  have hk : ∀ a q, a ≠ 178 ∧ a ≠ 179 ∧ a ≠ 183 + 2 * nx ∧ a ≠ 184 + 2 * nx ∧ a ≠ 215 + 2 * t ∧ a ≠ 216 + 2 * t → kzF F nx d t a q = F a q := fun a q h => kzF_o hnx ht h
  generalize hH : mj_u (stq (kpF G d) t (c + 1) (c + 1) 0 B) 234 (100 + t) (if v = 0 then 0 else 1) = H
  have hHo : ∀ a q, a ≠ 234 → a ≠ 235 → (a ≠ 223 ∨ q ≠ 18) → H a q = G a q := by
    intro a q h1' h2' h3'
    rw [← hH, u_o (Or.inl h1'), stq_o (Or.inl h1'), kpF_o h2' h3']
  have h234 : ∀ q, ¬ (25 * t ≤ q ∧ q < 25 * t + 25 ∨ q = 100 + t) → H 234 q = F 234 q := by
    intro q hq
    rw [← hH, u_o (Or.inr (by omega)), stq_o (Or.inr (by omega)), kpF_o (by decide) (Or.inl (by decide)), hG.1 234 (cA_m (by omega)), hk _ _ (by omega)]
  have hA : ∀ a, cA sw a → a ≠ 234 → a ≠ 235 → H a = kzF F nx d t a := fun a ha h1' h2' => funext fun q => by
    rw [hHo a q h1' h2' (Or.inl (by unfold cA at ha; omega)), hG.1 a ha]
  have hA2 : ∀ a, cA sw a → a ≠ 234 → a ≠ 235 → (a ≠ 178 ∧ a ≠ 179 ∧ a ≠ 183 + 2 * nx ∧ a ≠ 184 + 2 * nx ∧ a ≠ 215 + 2 * t ∧ a ≠ 216 + 2 * t) → H a = F a := fun a ha h1' h2' h3' => (hA a ha h1' h2').trans (funext fun q => hk a q h3')
  have hM : ∀ q, cM q → q ≠ 18 → H 223 q = F 223 q := fun q hq hn => by
    rw [hHo 223 q (by decide) (by decide) (Or.inr hn), hG.2.2.2.2 q hq, hk _ _ (by omega)]
  have hS : ∀ a q, (a = 3 ∧ (q = 1 ∨ q = 8 ∨ q = 9)) ∨ (a = 37 ∧ q = 9) ∨ (a = 170 ∧ 4 ≤ q ∧ q ≤ 7) → H a q = F a q := by
    intro a q h
    rw [hHo a q (by omega) (by omega) (by omega)]
    rcases h with ⟨rfl, h | h | h⟩ | ⟨rfl, rfl⟩ | ⟨rfl, h, h'⟩
    · rw [h, hG.2.1.1, hk _ _ (by omega)]
    · rw [h, hG.2.1.2.1, hk _ _ (by omega)]
    · rw [h, hG.2.1.2.2, hk _ _ (by omega)]
    · rw [hG.2.2.1, hk _ _ (by omega)]
    · rw [hG.2.2.2.1 q h h', hk _ _ (by omega)]
  have hv := TS_01 hT
  have hn48 : ∀ a, 48 ≤ a → a ≤ 172 → a ≠ 170 → H a = F a := fun a h1' h2' h3' => hA2 a (by unfold cA; omega) (by omega) (by omega) (by omega)
  have hm : ∀ a, 224 ≤ a → a ≤ 240 → a ≠ 234 → a ≠ 235 → H a = F a := fun a h1' h2' h3' h4' => hA2 a (cA_m ⟨h1', h2'⟩) h3' h4' (by omega)
  have hpl : ∀ k, k ≤ 12 → H (pl sw + k) = F (pl sw + k) := fun k hk' => hA2 _ (cA_pl hk') (by omega) (by omega) (by omega)
  refine ⟨RA_c hpl (fun q h1' h2' => hM q (Or.inl ⟨h1', h2'⟩) (by omega)) (fun a h1' h2' => hm a h1' (by omega) (by omega) (by omega)) ra, ?_, RC_c hpl (hS 37 9 (by omega)) (hM 23 (by unfold cM; omega) (by omega)) (fun a h1' h2' => hA2 a (cA_g ⟨h1', h2'⟩) (by omega) (by omega) (by omega)) (fun a h1' h2' => hn48 a h1' (by omega) (by omega)) (fun a h1' _ h3' => hm a (by omega) (by omega) (by omega) (by omega)) rc, RD_c (hn48 168 (by omega) (by omega) (by omega)) (hn48 169 (by omega) (by omega) (by omega)) (hn48 171 (by omega) (by omega) (by omega)) (hn48 172 (by omega) (by omega) (by omega)) (fun q h1' h2' => hS 170 q (by omega)) (fun q hq => h234 q (by omega)) (fun a h1' h2' => hm a h1' (by omega) (by omega) (by omega)) rd, ?_, ?_⟩
  · intro s hs
    by_cases hst : s = t
    · subst hst
      have e1 : H (215 + 2 * s) = kzF F nx d s (215 + 2 * s) := hA _ (cA_z (by omega)) (by omega) (by omega)
      have e2 : H (216 + 2 * s) = kzF F nx d s (216 + 2 * s) := hA _ (cA_z (by omega)) (by omega) (by omega)
      have e3 : H 234 (100 + s) = v := by
        rw [← hH, u_self]
        rcases hv.2.1 with h | h
        · have h' : v = 0 := h
          rw [if_pos h', h']
        · have h' : v = 1 := h
          rw [if_neg (by omega), h']
      refine ⟨?_, TS_e hT ?_ e3 (fun i j hi hj => ?_) (fun i j hi hj => ?_)⟩
      · rw [e1]
        unfold kzF
        rw [zs_n]
        exact h1
      · show H (215 + 2 * s) 2 = F 32 2
        rw [e1]
        unfold kzF
        rw [zs_v]
      · show H (216 + 2 * s) (6 * i + j) = gm 33 6 F i j
        rw [e2]
        unfold kzF
        rw [show 216 + 2 * s = 215 + 2 * s + 1 by omega]
        exact zs_c (show i < 6 by omega) (show j < 6 by omega)
      · show H 234 (25 * s + 5 * i + j) = B i j
        rw [← hH, u_o (Or.inr (by omega)), stq_in (by omega) hi hj]
    · have b := rb s hs
      refine ⟨?_, TS_e b.2 ?_ ?_ (fun i j hi hj => ?_) (fun i j hi hj => ?_)⟩
      · rw [hA2 (215 + 2 * s) (cA_z (by omega)) (by omega) (by omega) (by omega)]
        exact b.1
      · show H (215 + 2 * s) 2 = _
        rw [hA2 (215 + 2 * s) (cA_z (by omega)) (by omega) (by omega) (by omega)]
      · exact h234 _ (by omega)
      · show H (216 + 2 * s) (6 * i + j) = F (216 + 2 * s) (6 * i + j)
        rw [hA2 (216 + 2 * s) (cA_z (by omega)) (by omega) (by omega) (by omega)]
      · exact h234 _ (by omega)
  · have hd0 : d16 d = if d = 16 then 16 else d + 1 := rfl
    have e178 : H 178 = kzF F nx d t 178 := hA 178 (cA_z (by omega)) (by omega) (by omega)
    have k178 : ∀ q, kzF F nx d t 178 q = hkF F nx d t 178 q := fun q => by unfold kzF; rw [zs_o (by omega) (by omega)]
    have h228 := hm 228 (by omega) (by omega) (by omega) (by omega)
    have h229 := hm 229 (by omega) (by omega) (by omega) (by omega)
    refine RE_push (off := d + 1 - d16 d) hc4 ⟨hnx, hd, e4, e5, e18, eK⟩ hd0 (by unfold d16; split <;> omega) ?_ ?_ ?_ (fun k q hk' hq => ?_) (fun s hs hne => ⟨?_, ?_, ?_, ?_⟩) (fun s i hs hne hi => ?_) h228 h229 ?_
    · rw [e178, k178]
      unfold hkF
      rw [u_o (Or.inr (by decide)), u_self]
    · rw [e178, k178]
      unfold hkF
      rw [u_self]
    · rw [← hH, u_o (Or.inl (by decide)), stq_o (Or.inl (by decide)), kpF_18]
      rfl
    · refine (kpF_row (f := G) (off := d + 1 - d16 d) hd hd0 (by unfold d16; split <;> omega) ?_ hk' hq).trans ?_
      · funext x
        rw [← hH, u_o (Or.inl (by decide)), stq_o (Or.inl (by decide))]
      · unfold hrow
        rw [hG.1 234 (cA_m (by omega)), hG.1 235 (cA_m (by omega)), hk 234 _ (by omega), hk 235 _ (by omega)]
    · rw [hA 179 (cA_z (by omega)) (by omega) (by omega)]
      unfold kzF hkF
      rw [zs_o (by omega) (by omega), u_o (Or.inl (by decide)), u_o (Or.inl (by decide)), zs_o (by omega) (by omega), u_o (Or.inr hne)]
    · rw [hA2 182 (cA_z (by omega)) (by omega) (by omega) (by omega)]
    · exact hA2 _ (cA_z (by omega)) (by omega) (by omega) (by omega)
    · exact hA2 _ (cA_z (by omega)) (by omega) (by omega) (by omega)
    · rw [hA2 181 (cA_z (by omega)) (by omega) (by omega) (by omega)]
    · have b := rb t ht
      refine Or.inl ⟨t, ht, ?_, ?_, TS_e b.2 ?_ rfl (fun i j hi hj => ?_) (fun i j hi hj => rfl), fun q hq hn => (h234 q hn).symm⟩
      · rw [hA 179 (cA_z (by omega)) (by omega) (by omega)]
        unfold kzF hkF
        rw [zs_o (by omega) (by omega), u_o (Or.inl (by decide)), u_o (Or.inl (by decide)), zs_o (by omega) (by omega), u_self]
      · rw [hA (183 + 2 * nx) (cA_z (by omega)) (by omega) (by omega)]
        unfold kzF hkF
        rw [zs_o (by omega) (by omega), u_o (Or.inl (by omega)), u_o (Or.inl (by omega)), zs_n]
        exact b.1
      · show H (183 + 2 * nx) 2 = _
        rw [hA (183 + 2 * nx) (cA_z (by omega)) (by omega) (by omega)]
        unfold kzF hkF
        rw [zs_o (by omega) (by omega), u_o (Or.inl (by omega)), u_o (Or.inl (by omega)), zs_v]
      · show H (184 + 2 * nx) (6 * i + j) = gm (216 + 2 * t) 6 F i j
        rw [hA (184 + 2 * nx) (cA_z (by omega)) (by omega) (by omega)]
        unfold kzF hkF
        rw [zs_o (by omega) (by omega), u_o (Or.inl (by omega)), u_o (Or.inl (by omega)), show 184 + 2 * nx = 183 + 2 * nx + 1 by omega]
        exact zs_c (show i < 6 by omega) (show j < 6 by omega)
  · obtain ⟨f1, f2, f3, f4, f5, f6⟩ := rf
    refine ⟨f1, ?_, ?_, ?_, ?_, ?_⟩
    · rw [hS 3 1 (by omega)]; exact f2
    · rw [hM 25 (by unfold cM; omega) (by omega)]; exact f3
    · rw [hA2 4 (by unfold cA; omega) (by omega) (by omega) (by omega), hm 240 (by omega) (by omega) (by omega) (by omega)]; exact f4
    · rw [hS 3 8 (by omega), hM 31 (by unfold cM; omega) (by omega)]; exact f5
    · rw [hS 3 9 (by omega), hM 32 (by unfold cM; omega) (by omega)]; exact f6
/-- settle, and the reference's becomesTable behind it -/
theorem settle_both (hw : wk sw w) {f F : mj_F} {c np ne st N L nx d tp t : Nat} {ed : Nat → Nat} (r : RX sw f c np ne st N L nx d tp ed) (hc : Cor sw f F) (ht : t < 4) (h1 : F 32 1 = ((c + 1 : Nat) : Int)) (hv : F 32 2 = 0 ∨ F 32 2 = 1) : ∃ (F1 : mj_F) (a : Int), mj_call yX_settle w F [.inr (.inl 2), .inl (t : Int)] = some (w, F1, some (.inl a)) ∧ (∀ x, 223 ≤ x → F1 x = F x) ∧ (∀ k, k ≤ 12 → F1 (pl sw + k) = F (pl sw + k)) ∧ ∀ (G : mj_F) (M v : Int) (B : Mt), Cor sw F1 G → TS (c + 1) M (F 32 2, gm 33 6 F) (v, B) → ∃ F3, mj_call yM_becomesTable w (rq G ((c + 1 : Nat) : Int) v B) [.inr (.inl 223), .inl (t : Int)] = some (w, F3, some (.inl a)) ∧ RR sw F3 := by
  have r' := RX_c hc r
  obtain ⟨ra, rb, rc, rd, re, rf⟩ := id r'
  have hp := pl_o sw
  have hc4 : c ≤ 4 := ra.1.1
  obtain ⟨hnx, hd, e4, e5, e18, eK⟩ := re
  have b := TS_01 (rb t ht).2
  by_cases hf : F 32 2 = 0 ∧ byM (c + 1) 400 (gm 33 6 F) = true
  · refine ⟨F, -2, X_settle_far hw F h1 (by omega) _ hf, fun _ _ => rfl, fun _ _ => rfl, fun G M v B hG hT => ?_⟩
    have hv0 : v = 0 := (TS_01 hT).2.2.symm.trans hf.1
    subst hv0
    have hT' : TS (c + 1) M (0, gm 33 6 F) (0, B) := by rw [hf.1] at hT; exact hT
    refine ⟨_, (R_becomesTable hw G (by omega) ht ((hG.2.2.2.2 18 (by unfold cM; omega)).trans e18) hd 0 B).trans (if_pos ⟨rfl, ?_⟩), ?_⟩
    · exact ⟨c, np, ne, st, N, L, nx, d, tp, ed, RX_c (Cor_t hG Cor_rq) r'⟩
    · rw [← TS_far hT']; exact hf.2
  · refine ⟨kzF F nx d t, if F 32 2 = 0 then 1 else 0, X_settle_ok hw F h1 (by omega) e4 e5 hnx hd ht b.1 hv hf, fun x hx => funext fun q => kzF_o hnx ht (by omega), fun k hk => funext fun q => kzF_o hnx ht (by omega), fun G M v B hG hT => ?_⟩
    have hvv : F 32 2 = v := (TS_01 hT).2.2
    have hnf : ¬ (v = 0 ∧ farM (c + 1) B = true) := by
      intro h
      apply hf
      refine ⟨hvv.trans h.1, ?_⟩
      have hT' : TS (c + 1) M (0, gm 33 6 F) (0, B) := by rw [hvv, h.1] at hT; exact hT
      rw [TS_far hT']; exact h.2
    have hT8 : TS (c + 1) 802 (F 32 2, gm 33 6 F) (v, B) := by
      rcases hv with h0 | h0
      · have hv0 : v = 0 := hvv.symm.trans h0
        rw [h0, hv0] at hT ⊢
        refine TS_near hT ?_
        cases hx : farM (c + 1) B with
        | false => rfl
        | true => exact absurd ⟨hv0, hx⟩ hnf
      · exact Or.inl ⟨h0, hvv.symm.trans h0⟩
    have h18 : G 223 18 = (d : Int) := by
      rw [hG.2.2.2.2 18 (by unfold cM; omega), kzF_o hnx ht (by omega)]
      exact e18
    refine ⟨rq (mj_u (stq (kpF G d) t (c + 1) (c + 1) 0 B) 234 (100 + t) (if v = 0 then 0 else 1)) ((c + 1 : Nat) : Int) v B, ?_, ⟨c, np, ne, st, N, L, (nx + 1) % 16, d16 d, tp, ed, RX_c Cor_rq (settle_RX r hc ht h1 hT8 hG)⟩⟩
    rw [R_becomesTable hw G (by omega) ht h18 hd v B, if_neg hnf, hvv]
end SE
