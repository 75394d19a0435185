/-! text(). -/
/-- the class's part of one memory, the reference's part of another -/
def mx (f g : mj_F) : mj_F := fun a => if a < 223 then f a else g a
theorem mx_lo {f g : mj_F} {a : Nat} (h : a < 223) : mx f g a = f a := by unfold mx; rw [if_pos h]
theorem mx_hi {f g : mj_F} {a : Nat} (h : 223 ≤ a) : mx f g a = g a := by unfold mx; rw [if_neg (by omega)]
theorem mx_e {f g h : mj_F} (h1 : ∀ a, a < 223 → f a = h a) (h2 : ∀ a, 223 ≤ a → g a = h a) : mx f g = h := by
  funext a
  by_cases z : a < 223
  · rw [mx_lo z, h1 a z]
  · rw [mx_hi (by omega), h2 a (by omega)]
theorem mx_u {f g : mj_F} {k : Nat} {v : Int} : mx f (mj_u g 223 k v) = mj_u (mx f g) 223 k v := by
  funext a q
  by_cases z : a < 223
  · rw [mx_lo z, u_o (by omega), mx_lo z]
  · rw [mx_hi (by omega)]
    by_cases y : a = 223 ∧ q = k
    · obtain ⟨rfl, rfl⟩ := y
      rw [u_self, u_self]
    · rw [u_o (by omega), u_o (by omega), mx_hi (by omega)]
theorem R5_c {sw : Bool} {f g : mj_F} {c np ne st N L nx d tp : Nat} {ed : Nat → Nat} (h1 : ∀ a, cA sw a → g a = f a) (h3 : g 37 9 = f 37 9) (h4 : ∀ q, 4 ≤ q → q ≤ 7 → g 170 q = f 170 q) (h5 : ∀ q, (1 ≤ q ∧ q ≤ 5) ∨ q = 18 ∨ q = 23 → g 223 q = f 223 q) (r : RX sw f c np ne st N L nx d tp ed) : RA sw g c np ne st ∧ RB g c ∧ RC sw g c np ne st N ∧ RD g ne st L ed ∧ RE g c ne st nx d := by
  obtain ⟨ra, rb, rc, rd, re, rf⟩ := r
  have hp : ∀ k, k ≤ 12 → g (pl sw + k) = f (pl sw + k) := fun k hk => h1 _ (cA_pl hk)
  have hm : ∀ a, 224 ≤ a → a ≤ 240 → g a = f a := fun a h1' h2' => h1 a (cA_m ⟨h1', h2'⟩)
  have hz : ∀ a, 178 ≤ a → a ≤ 222 → g a = f a := fun a h1' h2' => h1 a (cA_z ⟨h1', h2'⟩)
  have hn : ∀ a, 48 ≤ a → a ≤ 169 → g a = f a := fun a h1' h2' => h1 a (cA_n ⟨h1', h2'⟩)
  have hg : ∀ a, 39 ≤ a → a ≤ 44 → g a = f a := fun a h1' h2' => h1 a (cA_g ⟨h1', h2'⟩)
  exact ⟨RA_c hp (fun q h1' h2' => h5 q (Or.inl ⟨h1', h2'⟩)) (fun a h1' h2' => hm a h1' (by omega)) ra, RB_c (fun a h1' h2' => hz a (by omega) h2') (hm 234 (by omega) (by omega)) rb, RC_c hp h3 (h5 23 (by omega)) hg (fun a h1' h2' => hn a h1' (by omega)) (fun a h1' _ h3' => hm a (by omega) (by omega)) rc, RD_c (hn 168 (by omega) (by omega)) (hn 169 (by omega) (by omega)) (h1 171 (by unfold cA; omega)) (h1 172 (by unfold cA; omega)) h4 (fun q _ => by rw [hm 234 (by omega) (by omega)]) (fun a h1' h2' => hm a h1' (by omega)) rd, RE_c (fun a h1' h2' => hz a h1' (by omega)) (h5 18 (by omega)) (hm 234 (by omega) (by omega)) (hm 235 (by omega) (by omega)) (hm 228 (by omega) (by omega)) (hm 229 (by omega) (by omega)) re⟩
theorem TO_c {g H : mj_F} (h : ∀ a, 224 ≤ a → a ≤ 232 → g a = H a) (np o : Nat) : TO g np o = TO H np o := by
  unfold TO tw tS
  rw [h 224 (by omega) (by omega), h 225 (by omega) (by omega), h 227 (by omega) (by omega), h 230 (by omega) (by omega), h 231 (by omega) (by omega), h 232 (by omega) (by omega)]
section OT
variable {sw : Bool} {w : mj_W}
theorem pl_fr (sw : Bool) : (pl sw = 5 ∧ fr sw = 18) ∨ (pl sw = 18 ∧ fr sw = 5) := by cases sw <;> decide
/-- text(), in both, each on its own memory -/
theorem text_both (hw : wk sw w) {f g : mj_F} {c np ne st N L nx d tp : Nat} {ed : Nat → Nat} (r : RX sw (mx f g) c np ne st N L nx d tp ed) (x1 : Int) : ∃ (sw1 : Bool) (W : mj_W) (F G : mj_F) (v : Int), wk sw1 W ∧ (W = w ∨ W = swW sw w) ∧ mj_call yX_text w f [.inr (.inl 2), .inl x1] = some (W, F, some (.inl v)) ∧ mj_call yM_text W g [.inr (.inl 223), .inl x1] = some (W, G, some (.inl v)) ∧ (∀ a, 223 ≤ a → F a = f a) ∧ (∀ a, a < 223 → G a = g a) ∧ RR sw1 (mx F G) := by
  have hpf := pl_fr sw
  obtain ⟨t1, t2, t3, t4, t5, t6⟩ := r.2.2.2.2.2
  rw [mx_lo (by decide)] at t2
  rw [mx_hi (by decide)] at t3
  have t4' : ∀ i, i < tp → f 4 i = g 240 i ∧ -128 ≤ f 4 i ∧ f 4 i < 128 := fun i hi => by
    have := t4 i hi
    rw [mx_lo (by decide), mx_hi (by decide)] at this
    exact this
  by_cases hx : 0 ≤ x1 ∧ x1 ≤ (tp : Int)
  rotate_left
  · refine ⟨sw, w, f, mj_u g 223 0 0, -2, hw, Or.inl rfl, ?_, ?_, fun _ _ => rfl, fun a ha => by funext q; exact u_o (by omega), ?_⟩
    · rw [c_X_text hw, t2]
      by_cases z : x1 < 0
      · rw [if_pos z]
      · rw [if_neg z, if_neg (by omega)]
    · rw [c_M_text hw, u_o (show (223 : Nat) ≠ 223 ∨ 25 ≠ 0 by omega), t3, M_isIn hw, mj_bi_some, if_neg hx, if_neg (fun z => z rfl)]
    · rw [mx_u]
      exact ⟨c, np, ne, st, N, L, nx, d, tp, ed, RX_c Cor_0 r⟩
  obtain ⟨n, rfl⟩ : ∃ n : Nat, x1 = (n : Int) := ⟨x1.toNat, by omega⟩
  have hn : n ≤ tp := by omega
  have hw1 := wk_sw hw
  have ht : ∀ i, i < n → mj_u f 3 1 0 4 i = g 240 i ∧ -128 ≤ mj_u f 3 1 0 4 i ∧ mj_u f 3 1 0 4 i < 128 := fun i hi => by
    rw [u_o (by omega)]; exact t4' i (by omega)
  -- whether it is read without a fault doesn't hang on the reference's world
  obtain ⟨f1, g1, v1, a1, ct, mt, a2⟩ := text_read hw hw1 (f := mj_u f 3 1 0) (g := g) hn t1 t3 ht
  obtain ⟨f1', g1', v1', b1, ct', mt', b2⟩ := text_read hw hw (f := mj_u f 3 1 0) (g := g) hn t1 t3 ht
  rw [a1] at b1
  have eb : f1 = f1' ∧ v1 = v1' := by
    have := Option.some.inj b1
    have h2 := (Prod.mk.inj this).2
    have h3 := Prod.mk.inj h2
    exact ⟨h3.1, by have := Option.some.inj h3.2; exact Sum.inl.inj this⟩
  obtain ⟨rfl, rfl⟩ := eb
  have eX : mj_call yX_text w f [.inr (.inl 2), .inl (n : Int)] = if ¬ v1 = 0 then mj_bu (mj_call yX_beginAnew (swW sw w) f1 [.inr (.inl 2)]) (fun f2 => mj_bu (mj_call yG_build (swW sw w) f2 [.inr (.inl 37), .inr (.inl (fr sw))]) (fun f3 => some (swW sw w, f3, some (.inl (f3 (fr sw) 0))))) else some (w, f1, some (.inl (-1))) := by
    rw [c_X_text hw, t2, if_neg (show ¬ (n : Int) < 0 by omega), if_pos (show (n : Int) ≤ (tp : Int) by omega), a1, mj_bi_some]
  have ff : ∀ a q, a ≠ 3 → ¬ (fr sw ≤ a ∧ a ≤ fr sw + 12) → f1 a q = f a q := fun a q h1 h2 => by rw [ct a q (by omega) h2, u_o (by omega)]
  have f31 : f1 3 1 = 0 := by rw [ct 3 1 (by omega) (by omega), u_self]
  rcases a2 with ⟨z1, z2, ⟨z3, z4, z5, z6⟩, c', np', ne', st', ln, sd, h0, pj⟩ | ⟨z1, -, -⟩
  rotate_left
  · have b3 : mj_call yM_text w g [.inr (.inl 223), .inl (n : Int)] = some (w, g1', some (.inl (-1))) ∧ BJ f1 g1' := by
      rcases b2 with ⟨y1, -⟩ | ⟨y1, y2, y3⟩
      · omega
      · exact ⟨y2, y3⟩
    obtain ⟨y2, bj⟩ := b3
    have gg : ∀ a q, ¬ (a = 223 ∧ (q = 0 ∨ 25 ≤ q ∧ q ≤ 33 ∨ 36 ≤ q ∧ q ≤ 41)) → ¬ (241 ≤ a ∧ a ≤ 251) → g1' a q = g a q := mt'.1
    refine ⟨sw, w, f1, g1', -1, hw, Or.inl rfl, by rw [eX, if_neg (fun z => z z1)], y2, fun a ha => by funext q; exact ff a q (by omega) (by omega), fun a ha => by funext q; exact gg a q (by omega) (by omega), c, np, ne, st, N, L, nx, d, 0, ed, ?_⟩
    obtain ⟨k1, k2, k3, k4, k5⟩ := R5_c (f := mx f g) (g := mx f1 g1') (fun a ha => by
      by_cases z : a < 223
      · rw [mx_lo z, mx_lo z]
        unfold cA at ha
        funext q
        exact ff a q (by omega) (by omega)
      · rw [mx_hi (by omega), mx_hi (by omega)]
        unfold cA at ha
        funext q
        exact gg a q (by omega) (by omega)) (by rw [mx_lo (by decide), mx_lo (by decide)]; exact ff _ _ (by omega) (by omega)) (fun q _ _ => by rw [mx_lo (by decide), mx_lo (by decide)]; exact ff _ _ (by omega) (by omega)) (fun q hq => by rw [mx_hi (by decide), mx_hi (by decide)]; exact gg _ _ (by omega) (by omega)) r
    refine ⟨k1, k2, k3, k4, k5, by omega, ?_, ?_, fun i hi => absurd hi (by omega), ?_, ?_⟩
    · rw [mx_lo (by decide)]; exact f31
    · rw [mx_hi (by decide)]; exact mt'.2
    · rw [mx_lo (by decide), mx_hi (by decide)]; exact bj.2.1
    · rw [mx_lo (by decide), mx_hi (by decide)]; exact bj.2.2
  -- a plan was read
  clear b2
  have hP : pl (!sw) = fr sw := pl_n sw
  obtain ⟨hc4, nj1, nj2, -⟩ := pj.1
  obtain ⟨hnp, hne, hst, -⟩ := pj.2.1
  obtain ⟨m0, m1, m2, m3, m4, m5, m6, m7, -, -⟩ := pj.2.2.1
  have go := GO_of pj (H := bcC g1) (fun q h => bcC_224 h) (fun q h => bcC_225 h) (fun q h => bcC_227 h) (fun q h => bcC_230 h) (fun q h => bcC_231 h) (fun q h => bcC_232 h)
  obtain ⟨g2, y1, y2, y3, y4, y5, y6⟩ := M_becomes hw1 hc4 hnp hne nj2 m3 m5 go
  obtain ⟨f2, x1', x2, ⟨x3, x4, x5, x6⟩, x7⟩ := X_beginAnew hw1 hc4 (show f1 (pl (!sw)) 1 = (c' : Int) by rw [hP]; exact nj1)
  have e2 : ∀ a, 224 ≤ a → a ≤ 232 → g2 a = bcC g1 a := fun a h1 h2 => by funext q; exact y2 a q (by omega) (by omega) (by omega) (by omega)
  have n2 : ∀ q, 1 ≤ q → q ≤ 5 → g2 223 q = bcC g1 223 q := fun q h1 h2 => y2 223 q (by omega) (by omega) (by omega) (by omega)
  have fpl : ∀ k, k ≤ 12 → f2 (fr sw + k) = f1 (fr sw + k) := fun k hk => by funext q; exact x2 _ q (by omega) (by omega) (by omega) (by omega)
  have hi : ∀ {a : Nat}, 223 ≤ a → mx f2 g2 a = g2 a := fun h => mx_hi h
  have ra : RA (!sw) (mx f2 g2) c' np' ne' st' := by
    refine RA_of hP h0 pj (fun k hk => by rw [mx_lo (by omega)]; exact fpl k hk) ?_ ?_ ?_ ?_ ?_ ?_ ?_ ?_ ?_ ?_ ?_ ?_ ?_ ?_ ?_
    · rw [hi (by decide), n2 1 (by omega) (by omega), bcC_1]
    · rw [hi (by decide), n2 2 (by omega) (by omega), bcC_2]
    · rw [hi (by decide), n2 3 (by omega) (by omega), bcC_3]
    · rw [hi (by decide), n2 4 (by omega) (by omega), bcC_4]
    · rw [hi (by decide), n2 5 (by omega) (by omega), bcC_5]
    · intro q h; rw [hi (by decide), e2 224 (by omega) (by omega), bcC_224 h]
    · intro q h; rw [hi (by decide), e2 225 (by omega) (by omega), bcC_225 h]
    · intro q h; rw [hi (by decide), e2 226 (by omega) (by omega), bcC_226 h]
    · intro q h; rw [hi (by decide), e2 227 (by omega) (by omega), bcC_227 h]
    · intro q h; rw [hi (by decide), e2 228 (by omega) (by omega), bcC_228 h]
    · intro q h; rw [hi (by decide), e2 229 (by omega) (by omega), bcC_229 h]
    · intro q h; rw [hi (by decide), e2 230 (by omega) (by omega), bcC_230 h]
    · intro q h; rw [hi (by decide), e2 231 (by omega) (by omega), bcC_231 h]
    · intro q h; rw [hi (by decide), e2 232 (by omega) (by omega), bcC_232 h]
    · have et : TO (mx f2 g2) np' (8 + ne') = TO (bcC g1) np' (8 + ne') := TO_c (fun a h1 h2 => by rw [hi (by omega)]; exact e2 a h1 h2) _ _
      rw [et]
      unfold GX at y3 ⊢
      rw [hi (by decide)]
      exact y3
  have ph : PH (!sw) (mx f2 g2) f2 g2 := ⟨fun k hk => by rw [hP, mx_lo (by omega)], fun a h1 h2 => by rw [hi (by omega)], fun q h1 h2 => by rw [hi (by omega)]⟩
  obtain ⟨f3, g3, N', k1, k2, k3, k4, k5⟩ := build_both hw1 hw1 ra (show st' < np' by omega) ph
  rw [hP] at k1
  have e30 : f3 (fr sw) 0 = (ln : Int) := by
    have := fpl 0 (by omega)
    rw [Nat.add_zero] at this
    rw [k4 _ _ (by omega), this]; exact m0
  have e31 : g3 223 1 = (ln : Int) := by
    rw [k5 _ _ (by omega) (by omega) (by omega), n2 1 (by omega) (by omega), bcC_1]; exact m1
  refine ⟨!sw, swW sw w, f3, g3, (ln : Int), hw1, Or.inr rfl, ?_, ?_, fun a ha => ?_, fun a ha => ?_, c', np', ne', st', N', 0, 0, 0, 0, fun _ => 0, ?_⟩
  · rw [eX, if_pos (show ¬ v1 = 0 by omega), x1', mj_bu_some, k1, mj_bu_some, e30]
  · rw [z2, y1, k2, mj_bu_some, mj_bu_some, e31]
  · funext q
    rw [k4 _ _ (by omega), x2 _ _ (by omega) (by omega) (by omega) (by omega)]
    exact ff a q (by omega) (by omega)
  · funext q
    rw [k5 _ _ (by omega) (by omega) (by omega), y2 _ _ (by omega) (by omega) (by omega) (by omega), bcC_o (by omega) (by omega)]
    exact mt.1 _ _ (by omega) (by omega)
  · have F3 : ∀ a, ¬ (37 ≤ a ∧ a ≤ 167) → f3 a = f2 a := fun a h => by funext q; exact k4 a q h
    have G3 : ∀ a, 224 ≤ a → ¬ (236 ≤ a ∧ a ≤ 239) → a ≠ 252 → g3 a = g2 a := fun a h1 h2 h3 => by funext q; exact k5 a q (by omega) h2 h3
    have g223 : ∀ q, q ≠ 23 → q ≠ 52 → q ≠ 53 → g3 223 q = g2 223 q := fun q h1 h2 h3 => k5 223 q (by omega) (by omega) (by omega)
    have lo : ∀ {a : Nat}, a < 223 → mx f3 g3 a = f3 a := fun h => mx_lo h
    have hh : ∀ {a : Nat}, 223 ≤ a → mx f3 g3 a = g3 a := fun h => mx_hi h
    have ra3 : RA (!sw) (mx f3 g3) c' np' ne' st' := RA_c (fun k hk => by rw [hP, lo (by omega), mx_lo (by omega)]; exact F3 _ (by omega)) (fun q h1 h2 => by rw [hh (by decide), hi (by decide)]; exact g223 q (by omega) (by omega) (by omega)) (fun a h1 h2 => by rw [hh (by omega), hi (by omega)]; exact G3 a h1 (by omega) (by omega)) ra
    have hpf3 : Pf (mx f2 g2) (mx f3 g3) := by
      refine ⟨?_, ?_, ?_, ?_, ?_, ?_, ?_, ?_⟩ <;> (rw [hh (by decide), hi (by decide)]; exact G3 _ (by decide) (by decide) (by decide))
    refine ⟨ra3, fun t ht => ?_, ?_, ⟨by omega, ?_, ?_, fun i hi => absurd hi (by omega), fun i hi => absurd hi (by omega), fun z => ?_⟩, ⟨by omega, by omega, ?_, ?_, ?_, fun k hk => absurd hk (by omega)⟩, by omega, ?_, ?_, fun i hi => absurd hi (by omega), ?_, ?_⟩
    · obtain ⟨u1, u2, u3⟩ := x7 t ht
      obtain ⟨u4, u5⟩ := y6 t ht
      have eg : ∀ q, mx f3 g3 234 q = g2 234 q := fun q => by rw [hh (by decide), G3 234 (by decide) (by decide) (by decide)]
      refine ⟨by rw [lo (by omega), F3 _ (by omega)]; exact u1, ?_⟩
      have T := TS_zero (n := c' + 1) (M := 802) (by decide) (A := fun _ _ => 1) (fun _ _ _ _ => rfl)
      refine TS_e T (by rw [lo (by omega), F3 _ (by omega)]; exact u2) (by rw [eg]; exact u4) (fun i j hi' hj => ?_) (fun i j hi' hj => ?_)
      · have := u3 i j (by omega) (by omega)
        show gm (216 + 2 * t) 6 (mx f3 g3) i j = 1
        unfold gm at this ⊢
        rw [lo (by omega), F3 _ (by omega)]; exact this
      · have := u5 i j hi' hj
        show tsq (mx f3 g3) 234 t i j = 1
        unfold tsq at this ⊢
        rw [eg]; exact this
    · obtain ⟨q1, q2, q3, q4, q5⟩ := k3
      refine ⟨q1, by rw [lo (by decide)]; exact q2, by rw [hh (by decide)]; exact q3, fun k hk => ?_, ?_⟩
      · have hk60 : k < 60 := by omega
        have t := q4 k hk
        unfold RN
        unfold BN at t
        rw [stOK_c hpf3, lo (show 39 < 223 by decide), lo (show 40 < 223 by decide), lo (show 41 < 223 by decide), lo (show 42 < 223 by decide), lo (show 43 < 223 by decide), hh (show 223 ≤ 228 by decide), hh (show 223 ≤ 229 by decide), hh (show 223 ≤ 236 by decide), hh (show 223 ≤ 237 by decide), hh (show 223 ≤ 238 by decide), tsq_c (hh (show 223 ≤ 239 by decide)), lo (show 48 + 2 * k < 223 by omega), gm_c (lo (show 49 + 2 * k < 223 by omega)), G3 228 (by decide) (by decide) (by decide), G3 229 (by decide) (by decide) (by decide)]
        rw [hi (show 223 ≤ 228 by decide), hi (show 223 ≤ 229 by decide)] at t
        exact ⟨t.1, t.2.1, t.2.2.1, t.2.2.2.1, t.2.2.2.2.1, t.2.2.2.2.2.1, t.2.2.2.2.2.2.1, Or.inl t.2.2.2.2.2.2.2⟩
      · rw [lo (show 44 < 223 by decide), hh (show 223 ≤ 236 by decide)]
        exact q5
    · rw [lo (by decide), F3 _ (by omega)]; exact x3
    · rw [hh (by decide), G3 _ (by decide) (by decide) (by decide)]; exact y5 104 (by omega) (by omega)
    · rw [lo (by decide), F3 _ (by omega), x4] at z
      exact absurd z (by decide)
    · rw [lo (by decide), F3 _ (by omega)]; exact x5
    · rw [lo (by decide), F3 _ (by omega)]; exact x6
    · rw [hh (by decide), g223 18 (by decide) (by decide) (by decide)]; exact y4
    · rw [lo (by decide), F3 _ (by omega), x2 _ _ (by omega) (by omega) (by omega) (by omega)]; exact f31
    · rw [hh (by decide), g223 25 (by decide) (by decide) (by decide), y2 _ _ (by omega) (by omega) (by omega) (by omega), bcC_o (by omega) (by omega)]; exact mt.2
    · rw [lo (by decide), F3 _ (by omega), x2 _ _ (by omega) (by omega) (by omega) (by omega), z3, hh (by decide), g223 31 (by decide) (by decide) (by decide), y2 _ _ (by omega) (by omega) (by omega) (by omega), bcC_o (by omega) (by omega), z5]
    · rw [lo (by decide), F3 _ (by omega), x2 _ _ (by omega) (by omega) (by omega) (by omega), z4, hh (by decide), g223 32 (by decide) (by decide) (by decide), y2 _ _ (by omega) (by omega) (by omega) (by omega), bcC_o (by omega) (by omega), z6]
/-- text(): both answer alike, the plans may have changed places -/
def OkT (sw : Bool) (w : mj_W) (f : mj_F) (x1 : Int) : Prop := ∃ (sw1 : Bool) (W : mj_W) (F G : mj_F) (v : Int), wk sw1 W ∧ (W = w ∨ W = swW sw w) ∧ mj_call yX_text w f [.inr (.inl 2), .inl x1] = some (W, F, some (.inl v)) ∧ mj_call yM_text W F [.inr (.inl 223), .inl x1] = some (W, G, some (.inl v)) ∧ RR sw1 G
theorem ok_text (hw : wk sw w) {f : mj_F} (r : RR sw f) (x1 : Int) : OkT sw w f x1 := by
  obtain ⟨c, np, ne, st, N, L, nx, d, tp, ed, r⟩ := r
  have e1 : mx f f = f := mx_e (fun _ _ => rfl) (fun _ _ => rfl)
  obtain ⟨s1, W1, F1, G1, v1, a1, a2, a3, a4, a5, a6, a7⟩ := text_both hw (f := f) (g := f) (by rw [e1]; exact r) x1
  have e2 : mx f F1 = f := mx_e (fun _ _ => rfl) a5
  obtain ⟨s2, W2, F2, G2, v2, b1, b2, b3, b4, b5, b6, b7⟩ := text_both hw (f := f) (g := F1) (by rw [e2]; exact r) x1
  rw [a3] at b3
  have h := Prod.mk.inj (Option.some.inj b3)
  have h2 := Prod.mk.inj h.2
  have h3 := Sum.inl.inj (Option.some.inj h2.2)
  obtain rfl := h.1
  obtain rfl := h2.1
  obtain rfl := h3
  have e3 : mx F1 G2 = G2 := mx_e (fun a ha => (b6 a ha).symm) (fun _ _ => rfl)
  rw [e3] at b7
  exact ⟨s2, W1, F1, G2, v1, b1, b2, a3, b4, b7⟩
end OT
