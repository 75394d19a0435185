/-! undo. -/
theorem RE_pop {f g : mj_F} {c ne st nx d : Nat} (hc : c ≤ 4) (r : RE f c ne st nx (d + 1)) (h4 : g 178 4 = (((nx + 15) % 16 : Nat) : Int)) (h5 : g 178 5 = (d : Int)) (h18 : g 223 18 = (d : Int)) (h235 : g 235 = f 235) (h234 : ∀ q, q < 125 → g 234 q = f 235 (125 * d + q)) (hs : ∀ a, 179 ≤ a → a ≤ 214 → g a = f a) (h8 : g 228 = f 228) (h9 : g 229 = f 229) : RE g c ne st ((nx + 15) % 16) d := by
  obtain ⟨r1, r2, r3, r4, r5, r6⟩ := r
  refine ⟨Nat.mod_lt _ (by decide), by omega, h4, h5, h18, fun k hk => ?_⟩
  have es : ((nx + 15) % 16 + 16 - d + k) % 16 = (nx + 16 - (d + 1) + k) % 16 := by omega
  have hlt : (nx + 16 - (d + 1) + k) % 16 < 16 := Nat.mod_lt _ (by decide)
  have row : ∀ k, k ≤ d → ∀ q, q < 125 → hrow g d k q = hrow f (d + 1) k q := by
    intro k hk q hq
    unfold hrow
    by_cases h : k < d
    · rw [if_pos h, if_pos (by omega), h235]
    · rw [if_neg h, if_pos (by omega), h234 q hq, show k = d by omega]
  rw [es]
  exact HK_e hc (row k (by omega)) (row (k + 1) (by omega)) (HK_s (by rw [hs 179 (by omega) (by omega)]) (fun i _ => by rw [hs 181 (by omega) (by omega)]) (by rw [hs 182 (by omega) (by omega)]) (hs _ (by omega) (by omega)) (hs _ (by omega) (by omega)) h8 h9 (r6 k (by omega)))
theorem bkn_at {f : mj_F} {d q : Nat} (hq : q < 125) : bkn f d 125 234 q = f 235 (125 * d + q) := by
  unfold bkn
  rw [if_pos ⟨rfl, hq⟩]
theorem bkn_o {f : mj_F} {d m a q : Nat} (h : a ≠ 234) : bkn f d m a q = f a q := by
  unfold bkn
  rw [if_neg (fun z => h z.1)]
def dlF (f : mj_F) (nx d : Nat) : mj_F := mj_u (mj_u f 178 4 (((nx + 15) % 16 : Nat) : Int)) 178 5 (d : Int)
theorem dlF_o {f : mj_F} {nx d a q : Nat} (h : a ≠ 178) : dlF f nx d a q = f a q := by
  unfold dlF
  rw [u_o (Or.inl h), u_o (Or.inl h)]
theorem w20 {s : Nat} (h : s < 16) : mj_w ((s : Int) * 20) = ((20 * s : Nat) : Int) := by unfold mj_w; omega
theorem w16 {nx : Nat} (h : nx < 16) : mj_w (mj_w ((nx : Int) + 16) - 1) = ((nx + 15 : Nat) : Int) := by unfold mj_w; omega
def rpF (F : mj_F) (s : Nat) : mj_F := mj_u (mj_cpy (mj_u F 168 1 (F 182 s)) 181 (20 * s) 169 0 20) 170 4 1
theorem rpF_o {F : mj_F} {s a q : Nat} (h1 : a ≠ 168 ∨ q ≠ 1) (h2 : a ≠ 169) (h3 : a ≠ 170 ∨ q ≠ 4) : rpF F s a q = F a q := by
  unfold rpF
  rw [u_o h3]
  unfold mj_cpy
  rw [if_neg (fun z => h2 z.1), u_o h1]
theorem rpF_169 {F : mj_F} {s i : Nat} (hi : i < 20) : rpF F s 169 i = F 181 (20 * s + i) := by
  unfold rpF
  rw [u_o (Or.inl (by decide))]
  unfold mj_cpy
  rw [if_pos ⟨rfl, by omega, by omega⟩, u_o (Or.inl (by decide)), Nat.sub_zero]
theorem rpF_168 {F : mj_F} {s : Nat} : rpF F s 168 1 = F 182 s := by
  unfold rpF
  rw [u_o (Or.inl (by decide))]
  unfold mj_cpy
  rw [if_neg (fun z => absurd z.1 (by decide)), u_self]
theorem RD_c' {f g : mj_F} {ne st L : Nat} {ed : Nat → Nat} (h1 : g 168 = f 168) (h2 : g 169 = f 169) (h3 : g 171 = f 171) (h4 : g 172 = f 172) (h5 : ∀ q, 4 ≤ q → q ≤ 7 → g 170 q = f 170 q) (h6 : ∀ q, 104 ≤ q → q < 125 → g 234 q = f 234 q) (hm : ∀ a, 224 ≤ a → a ≤ 232 → g a = f a) (r : RD f ne st L ed) : RD g ne st L ed := by
  have r' : RD (fun a q => if a = 234 then f a q else g a q) ne st L ed := by
    refine RD_c (f := f) ?_ ?_ ?_ ?_ (fun q a b => ?_) (fun q _ => ?_) (fun a b c => ?_) r
    · funext q; show (if (168 : Nat) = 234 then f 168 q else g 168 q) = _; rw [if_neg (by decide), h1]
    · funext q; show (if (169 : Nat) = 234 then f 169 q else g 169 q) = _; rw [if_neg (by decide), h2]
    · funext q; show (if (171 : Nat) = 234 then f 171 q else g 171 q) = _; rw [if_neg (by decide), h3]
    · funext q; show (if (172 : Nat) = 234 then f 172 q else g 172 q) = _; rw [if_neg (by decide), h4]
    · show (if (170 : Nat) = 234 then f 170 q else g 170 q) = _; rw [if_neg (by decide), h5 q a b]
    · show (if (234 : Nat) = 234 then f 234 q else g 234 q) = _; rw [if_pos rfl]
    · funext q; show (if a = 234 then f a q else g a q) = _; rw [if_neg (by omega), hm a b c]
  have e0 : ∀ a, a ≠ 234 → (fun a q => if a = 234 then f a q else g a q : mj_F) a = g a := fun a ha => funext fun q => if_neg ha
  have e1 : (fun a q => if a = 234 then f a q else g a q : mj_F) 234 = f 234 := funext fun q => if_pos rfl
  generalize (fun a q => if a = 234 then f a q else g a q : mj_F) = X at r' e0 e1
  have e := e0
  obtain ⟨r1, r2, r3, r4, r5, r6⟩ := r'
  have hw : whS X L = whS g L := by unfold whS; rw [gm_c (e 171 (by decide))]
  refine ⟨r1, ?_, ?_, fun i hi => ⟨?_, ?_⟩, chn_c (e 228 (by decide)).symm (e 229 (by decide)).symm r5, fun h0 => ?_⟩
  · rw [← e 168 (by decide)]; exact r2
  · rw [h6 104 (by decide) (by decide), ← e1]; exact r3
  · rw [← e 169 (by decide)]; exact (r4 i hi).1
  · rw [h6 (105 + i) (by omega) (by omega), ← e1]; exact (r4 i hi).2
  · obtain ⟨a1, a2, a3⟩ := r6 (by rw [e 170 (by decide)]; exact h0)
    rw [e 170 (by decide)] at a1 a2 a3
    rw [gm_c (f := X) (g := g) (e 171 (by decide)).symm, gm_c (f := X) (g := g) (e 172 (by decide)).symm, ← hw]
    exact ⟨a1, TC_c ⟨(e 224 (by decide)).symm, (e 225 (by decide)).symm, (e 226 (by decide)).symm, (e 227 (by decide)).symm, (e 229 (by decide)).symm, (e 230 (by decide)).symm, (e 231 (by decide)).symm, (e 232 (by decide)).symm⟩ a2, a3⟩
section UN
variable {sw : Bool} {w : mj_W}
theorem H_dropLatest (hw : wk sw w) (F : mj_F) {nx d : Nat} (h4 : F 178 4 = (nx : Int)) (h5 : F 178 5 = ((d + 1 : Nat) : Int)) (hnx : nx < 16) (hd : d < 16) : mj_call yH_dropLatest w F [.inr (.inl 178)] = some (w, dlF F nx d, some (.inl (((nx + 15) % 16 : Nat) : Int))) := by
  rw [c_H_dropLatest hw, mj_gd_pos (by decide), h4, w16 hnx, rem16 (by omega), u_o (Or.inr (by decide)), h5, wP (by omega), u_o (Or.inr (by decide)), u_self]
  rfl
theorem H_restorePath (hw : wk sw w) (F : mj_F) {s : Nat} (hs : s < 16) : mj_call yH_restorePath w F [.inr (.inl 178), .inl (s : Int), .inr (.inl 168)] = some (w, mj_cpy (mj_u F 168 1 (F 182 s)) 181 (20 * s) 169 0 20, none) := by
  rw [c_H_restorePath hw, mj_gd_pos ⟨by omega, by omega⟩, w20 hs, mj_gd_pos ⟨by omega, by omega, by omega, by omega, by omega⟩, Int.toNat_natCast, Int.toNat_natCast]
  rfl
theorem ok_undo (hw : wk sw w) {f : mj_F} (r : RR sw f) : Ok sw w f yX_undo yM_undo [] := by
  obtain ⟨c, np, ne, st, N, L, nx, d, tp, ed, r⟩ := r
  have r0 : RR sw f := ⟨c, np, ne, st, N, L, nx, d, tp, ed, r⟩
  obtain ⟨ra, rb, rc, rd, re, rf⟩ := r
  have hp := pl_o sw
  have hc4 : c ≤ 4 := ra.1.1
  obtain ⟨hnx, hd16, e4, e5, e18, eK⟩ := id re
  cases d with
  | zero =>
    refine Ok_i r0 (F1 := f) (F3 := mj_u f 223 0 0) (v := -1) ?_ (Cor_r _ _) (M_undo_0 hw f e18) Cor_0
    rw [c_X_undo hw, e5, if_neg (by decide)]
  | succ d =>
    have hs16 : (nx + 15) % 16 < 16 := Nat.mod_lt _ (by decide)
    have hk := eK d (by omega)
    rw [show (nx + 16 - (d + 1) + d) % 16 = (nx + 15) % 16 by omega] at hk
    have hr1 : ∀ q, hrow f (d + 1) d q = f 235 (125 * d + q) := fun q => by unfold hrow; rw [if_pos (by omega)]
    have hr2 : ∀ q, hrow f (d + 1) (d + 1) q = f 234 q := fun q => by unfold hrow; rw [if_neg (by omega)]
    -- the class's call, what it leaves; then the reference's
    have fin : ∀ (K : mj_F), (∀ a q, a ≠ 178 → a ≠ 168 → a ≠ 169 → a ≠ 170 → ¬ (215 ≤ a ∧ a ≤ 222) → K a q = f a q) → K 178 4 = (((nx + 15) % 16 : Nat) : Int) → K 178 5 = (d : Int) → ∀ (H : mj_F), H = bkn (mj_u (mj_u K 223 0 0) 223 18 (d : Int)) d 125 → RB H c → (∃ L' ed', RD H ne st L' ed') → RR sw H := by
      intro K hK k4 k5 H hH rbH ⟨L', ed', rdH⟩
      have hHo : ∀ a q, a ≠ 234 → (a ≠ 223 ∨ (q ≠ 0 ∧ q ≠ 18)) → H a q = K a q := by
        intro a q h1 h2
        rw [hH, bkn_o h1]
        by_cases h3 : a = 223
        · rw [u_o (Or.inr (by omega)), u_o (Or.inr (by omega))]
        · rw [u_o (Or.inl h3), u_o (Or.inl h3)]
      have hA : ∀ a, a ≠ 234 → a ≠ 223 → a ≠ 178 → a ≠ 168 → a ≠ 169 → a ≠ 170 → ¬ (215 ≤ a ∧ a ≤ 222) → H a = f a := fun a h1 h2 h3 h4 h5 h6 h7 => funext fun q => (hHo a q h1 (Or.inl h2)).trans (hK a q h3 h4 h5 h6 h7)
      have hM : ∀ q, q ≠ 0 → q ≠ 18 → H 223 q = f 223 q := fun q h1 h2 => (hHo 223 q (by decide) (Or.inr ⟨h1, h2⟩)).trans (hK 223 q (by decide) (by decide) (by decide) (by decide) (by decide))
      refine ⟨c, np, ne, st, N, L', (nx + 15) % 16, d, tp, ed', ⟨RA_c (fun k hk => hA _ (by omega) (by omega) (by omega) (by omega) (by omega) (by omega) (by omega)) (fun q h1 h2 => hM q (by omega) (by omega)) (fun a h1 h2 => hA a (by omega) (by omega) (by omega) (by omega) (by omega) (by omega) (by omega)) ra, rbH, RC_c (fun k hk => hA _ (by omega) (by omega) (by omega) (by omega) (by omega) (by omega) (by omega)) ((hHo 37 9 (by decide) (Or.inl (by decide))).trans (hK 37 9 (by decide) (by decide) (by decide) (by decide) (by decide))) (hM 23 (by decide) (by decide)) (fun a h1 h2 => hA a (by omega) (by omega) (by omega) (by omega) (by omega) (by omega) (by omega)) (fun a h1 h2 => hA a (by omega) (by omega) (by omega) (by omega) (by omega) (by omega) (by omega)) (fun a h1 h2 h3 => hA a (by omega) (by omega) (by omega) (by omega) (by omega) (by omega) (by omega)) rc, rdH, RE_pop hc4 re ?_ ?_ ?_ (hA 235 (by decide) (by decide) (by decide) (by decide) (by decide) (by decide) (by decide)) (fun q hq => ?_) (fun a h1 h2 => hA a (by omega) (by omega) (by omega) (by omega) (by omega) (by omega) (by omega)) (hA 228 (by decide) (by decide) (by decide) (by decide) (by decide) (by decide) (by decide)) (hA 229 (by decide) (by decide) (by decide) (by decide) (by decide) (by decide) (by decide)), ?_⟩⟩
      · rw [hHo 178 4 (by decide) (Or.inl (by decide))]; exact k4
      · rw [hHo 178 5 (by decide) (Or.inl (by decide))]; exact k5
      · rw [hH, bkn_o (by decide), u_self]
      · rw [hH, bkn_at hq, u_o (Or.inl (by decide)), u_o (Or.inl (by decide))]
        exact hK 235 _ (by decide) (by decide) (by decide) (by decide) (by decide)
      · obtain ⟨f1, f2, f3, f4, f5, f6⟩ := rf
        have h3 : ∀ q, H 3 q = f 3 q := fun q => (hHo 3 q (by decide) (Or.inl (by decide))).trans (hK 3 q (by decide) (by decide) (by decide) (by decide) (by decide))
        refine ⟨f1, (h3 1).trans f2, (hM 25 (by decide) (by decide)).trans f3, ?_, ?_, ?_⟩
        · rw [hA 4 (by decide) (by decide) (by decide) (by decide) (by decide) (by decide) (by decide), hA 240 (by decide) (by decide) (by decide) (by decide) (by decide) (by decide) (by decide)]; exact f4
        · rw [h3, hM 31 (by decide) (by decide)]; exact f5
        · rw [h3, hM 32 (by decide) (by decide)]; exact f6
    have g16 : (0 : Int) ≤ (((nx + 15) % 16 : Nat) : Int) ∧ (((nx + 15) % 16 : Nat) : Int) < ((16 : Nat) : Int) := ⟨by omega, by omega⟩
    rcases hk with ⟨o, ho, k1, k2, k3, k4⟩ | ⟨k1, k2, L', ed', k3, k4, k5, k6, k7⟩
    · -- a table comes back
      have hv : f (183 + 2 * ((nx + 15) % 16)) 2 = 0 ∨ f (183 + 2 * ((nx + 15) % 16)) 2 = 1 := (TS_01 k3).1
      obtain ⟨K, hKd⟩ : ∃ K, K = zs (215 + 2 * o) (dlF f nx d) (f (183 + 2 * ((nx + 15) % 16)) 1) (f (183 + 2 * ((nx + 15) % 16)) 2) (gm (184 + 2 * ((nx + 15) % 16)) 6 f) := ⟨_, rfl⟩
      have hKo : ∀ a q, a ≠ 178 → a ≠ 215 + 2 * o → a ≠ 216 + 2 * o → K a q = f a q := by
        intro a q h1 h2 h3
        rw [hKd, zs_o h2 (by omega), dlF_o h1]
      have k178 : ∀ q, K 178 q = dlF f nx d 178 q := fun q => by rw [hKd, zs_o (by omega) (by omega)]
      refine ⟨K, _, (d : Int), ?_, M_undo_S hw K (by rw [hKo _ _ (by decide) (by omega) (by omega)]; exact e18) (by omega), fin K (fun a q h1 _ _ _ h2 => hKo a q h1 (by omega) (by omega)) ?_ ?_ _ rfl (fun t ht => ?_) ⟨L, ed, ?_⟩⟩
      · rw [c_X_undo hw, e5, if_pos (by omega), H_dropLatest hw f e4 e5 hnx (by omega), mj_bi_some]
        simp only [mj_gd_pos g16, Int.toNat_natCast, dlF_o (show (179 : Nat) ≠ 178 by decide), k1, X_isTable hw, mj_bi_some, i01]
        have go : (0 : Int) ≤ (o : Int) ∧ (o : Int) < ((4 : Nat) : Int) := ⟨by omega, by omega⟩
        have e1 : ∀ q, dlF f nx d (183 + 2 * ((nx + 15) % 16)) q = f (183 + 2 * ((nx + 15) % 16)) q := fun q => dlF_o (by omega)
        have e2 : gm (183 + 2 * ((nx + 15) % 16) + 1) 6 (dlF f nx d) = gm (184 + 2 * ((nx + 15) % 16)) 6 f := by
          unfold gm
          funext i j
          rw [dlF_o (by omega), show 183 + 2 * ((nx + 15) % 16) + 1 = 184 + 2 * ((nx + 15) % 16) by omega]
        rw [if_neg (by omega), mj_gd_pos go, Z_become hw (zn215 ho) (zn183 hs16) (by omega) _ (by rw [e1]; exact hv), mj_bu_some, e1, e1, e2, ← hKd, k178]
        unfold dlF
        rw [u_self]
      · rw [k178]; unfold dlF; rw [u_o (Or.inr (by decide)), u_self]
      · rw [k178]; unfold dlF; rw [u_self]
      · have h234 : ∀ q, q < 125 → bkn (mj_u (mj_u K 223 0 0) 223 18 (d : Int)) d 125 234 q = f 235 (125 * d + q) := fun q hq => by
          rw [bkn_at hq, u_o (Or.inl (by decide)), u_o (Or.inl (by decide)), hKo _ _ (by decide) (by omega) (by omega)]
        have hz : ∀ a q, 215 ≤ a → a ≤ 222 → bkn (mj_u (mj_u K 223 0 0) 223 18 (d : Int)) d 125 a q = K a q := fun a q h1 h2 => by
          rw [bkn_o (by omega), u_o (Or.inl (by omega)), u_o (Or.inl (by omega))]
        by_cases hto : t = o
        · subst hto
          refine ⟨?_, TS_e k3 ?_ ?_ (fun i j hi hj => ?_) (fun i j hi hj => ?_)⟩
          · rw [hz _ _ (by omega) (by omega), hKd, zs_n]; exact k2
          · show bkn (mj_u (mj_u K 223 0 0) 223 18 (d : Int)) d 125 (215 + 2 * t) 2 = _
            rw [hz _ _ (by omega) (by omega), hKd, zs_v]
          · show bkn (mj_u (mj_u K 223 0 0) 223 18 (d : Int)) d 125 234 (100 + t) = hrow f (d + 1) d (100 + t)
            rw [h234 _ (by omega), hr1]
          · show bkn (mj_u (mj_u K 223 0 0) 223 18 (d : Int)) d 125 (216 + 2 * t) (6 * i + j) = _
            rw [hz _ _ (by omega) (by omega), hKd, show 216 + 2 * t = 215 + 2 * t + 1 by omega]
            exact zs_c (show i < 6 by omega) (show j < 6 by omega)
          · show bkn (mj_u (mj_u K 223 0 0) 223 18 (d : Int)) d 125 234 (25 * t + 5 * i + j) = hrow f (d + 1) d (25 * t + 5 * i + j)
            rw [h234 _ (by omega), hr1]
        · have b := rb t ht
          have hq : ∀ q, q < 125 → ¬ (25 * o ≤ q ∧ q < 25 * o + 25 ∨ q = 100 + o) → bkn (mj_u (mj_u K 223 0 0) 223 18 (d : Int)) d 125 234 q = f 234 q := fun q h1 h2 => by
            have := k4 q h1 h2
            rw [hr1, hr2] at this
            rw [h234 q h1]
            exact this
          refine ⟨?_, TS_e b.2 ?_ ?_ (fun i j hi hj => ?_) (fun i j hi hj => ?_)⟩
          · rw [hz _ _ (by omega) (by omega), hKo _ _ (by omega) (by omega) (by omega)]; exact b.1
          · show bkn (mj_u (mj_u K 223 0 0) 223 18 (d : Int)) d 125 (215 + 2 * t) 2 = _
            rw [hz _ _ (by omega) (by omega), hKo _ _ (by omega) (by omega) (by omega)]
          · exact hq _ (by omega) (by omega)
          · show bkn (mj_u (mj_u K 223 0 0) 223 18 (d : Int)) d 125 (216 + 2 * t) (6 * i + j) = f (216 + 2 * t) (6 * i + j)
            rw [hz _ _ (by omega) (by omega), hKo _ _ (by omega) (by omega) (by omega)]
          · exact hq _ (by omega) (by omega)
      · have hX : ∀ a, a ≠ 234 → a ≠ 223 → a ≠ 178 → ¬ (215 ≤ a ∧ a ≤ 222) → bkn (mj_u (mj_u K 223 0 0) 223 18 (d : Int)) d 125 a = f a := fun a h1 h2 h3 h4 => funext fun q => by
          rw [bkn_o h1, u_o (Or.inl h2), u_o (Or.inl h2), hKo _ _ h3 (by omega) (by omega)]
        refine RD_c' (hX 168 (by decide) (by decide) (by decide) (by decide)) (hX 169 (by decide) (by decide) (by decide) (by decide)) (hX 171 (by decide) (by decide) (by decide) (by decide)) (hX 172 (by decide) (by decide) (by decide) (by decide)) (fun q _ _ => by rw [hX 170 (by decide) (by decide) (by decide) (by decide)]) (fun q h1 h2 => ?_) (fun a h1 h2 => hX a (by omega) (by omega) (by omega) (by omega)) rd
        have := k4 q h2 (by omega)
        rw [hr1, hr2] at this
        rw [bkn_at h2, u_o (Or.inl (by decide)), u_o (Or.inl (by decide)), hKo _ _ (by decide) (by omega) (by omega)]
        exact this
    · -- a trace comes back
      obtain ⟨K, hKd⟩ : ∃ K, K = rpF (dlF f nx d) ((nx + 15) % 16) := ⟨_, rfl⟩
      have hKo : ∀ a q, a ≠ 178 → a ≠ 168 → a ≠ 169 → a ≠ 170 → K a q = f a q := by
        intro a q h1 h2 h3 h4
        rw [hKd, rpF_o (Or.inl h2) h3 (Or.inl h4), dlF_o h1]
      have k178 : ∀ q, K 178 q = dlF f nx d 178 q := fun q => by rw [hKd, rpF_o (Or.inl (by decide)) (by decide) (Or.inl (by decide))]
      have h234 : ∀ q, q < 125 → bkn (mj_u (mj_u K 223 0 0) 223 18 (d : Int)) d 125 234 q = f 235 (125 * d + q) := fun q hq => by
        rw [bkn_at hq, u_o (Or.inl (by decide)), u_o (Or.inl (by decide)), hKo _ _ (by decide) (by decide) (by decide) (by decide)]
      have hX : ∀ a q, a ≠ 234 → a ≠ 223 → bkn (mj_u (mj_u K 223 0 0) 223 18 (d : Int)) d 125 a q = K a q := fun a q h1 h2 => by
        rw [bkn_o h1, u_o (Or.inl h2), u_o (Or.inl h2)]
      have hX2 : ∀ a, a ≠ 234 → a ≠ 223 → a ≠ 178 → a ≠ 168 → a ≠ 169 → a ≠ 170 → bkn (mj_u (mj_u K 223 0 0) 223 18 (d : Int)) d 125 a = f a := fun a h1 h2 h3 h4 h5 h6 => funext fun q => (hX a q h1 h2).trans (hKo a q h3 h4 h5 h6)
      refine ⟨K, _, (d : Int), ?_, M_undo_S hw K (by rw [hKo _ _ (by decide) (by decide) (by decide) (by decide)]; exact e18) (by omega), fin K (fun a q h1 h2 h3 h4 _ => hKo a q h1 h2 h3 h4) ?_ ?_ _ rfl (fun t ht => ?_) ⟨L', ed', ?_⟩⟩
      · rw [c_X_undo hw, e5, if_pos (by omega), H_dropLatest hw f e4 e5 hnx (by omega), mj_bi_some]
        simp only [mj_gd_pos g16, Int.toNat_natCast, dlF_o (show (179 : Nat) ≠ 178 by decide), k1, X_isTable hw, mj_bi_some, i01]
        rw [if_pos (by omega), H_restorePath hw _ hs16, mj_bu_some]
        have e : mj_u (mj_cpy (mj_u (dlF f nx d) 168 1 (dlF f nx d 182 ((nx + 15) % 16))) 181 (20 * ((nx + 15) % 16)) 169 0 20) 170 4 1 = K := by rw [hKd]; rfl
        rw [e, k178]
        unfold dlF
        rw [u_self]
      · rw [k178]; unfold dlF; rw [u_o (Or.inr (by decide)), u_self]
      · rw [k178]; unfold dlF; rw [u_self]
      · have b := rb t ht
        have hq : ∀ q, q < 104 → bkn (mj_u (mj_u K 223 0 0) 223 18 (d : Int)) d 125 234 q = f 234 q := fun q h1 => by
          have := k2 q h1
          rw [hr1, hr2] at this
          rw [h234 q (by omega)]
          exact this
        refine ⟨?_, TS_e b.2 ?_ ?_ (fun i j hi hj => ?_) (fun i j hi hj => ?_)⟩
        · rw [hX2 _ (by omega) (by omega) (by omega) (by omega) (by omega) (by omega)]; exact b.1
        · show bkn (mj_u (mj_u K 223 0 0) 223 18 (d : Int)) d 125 (215 + 2 * t) 2 = _
          rw [hX2 _ (by omega) (by omega) (by omega) (by omega) (by omega) (by omega)]
        · exact hq _ (by omega)
        · show bkn (mj_u (mj_u K 223 0 0) 223 18 (d : Int)) d 125 (216 + 2 * t) (6 * i + j) = f (216 + 2 * t) (6 * i + j)
          rw [hX2 _ (by omega) (by omega) (by omega) (by omega) (by omega) (by omega)]
        · exact hq _ (by omega)
      · refine ⟨k3, ?_, ?_, fun i hi => ⟨?_, ?_⟩, chn_c (hX2 228 (by decide) (by decide) (by decide) (by decide) (by decide) (by decide)) (hX2 229 (by decide) (by decide) (by decide) (by decide) (by decide) (by decide)) k7, fun h => ?_⟩
        · rw [hX _ _ (by decide) (by decide), hKd, rpF_168, dlF_o (by decide)]; exact k4
        · rw [h234 _ (by decide), ← hr1]; exact k5
        · rw [hX _ _ (by decide) (by decide), hKd, rpF_169 (by omega), dlF_o (by decide)]; exact (k6 i hi).1
        · rw [h234 _ (by omega), ← hr1]; exact (k6 i hi).2
        · rw [hX _ _ (by decide) (by decide), hKd] at h
          unfold rpF at h
          rw [u_self] at h
          exact absurd h (by decide)
end UN
