/-! text() read, in both; the plan that comes of it. -/
def CT (P : Nat) (f f' : mj_F) : Prop := ∀ a q, ¬ (a = 3 ∧ 3 ≤ q ∧ q ≤ 9) → ¬ (P ≤ a ∧ a ≤ P + 12) → f' a q = f a q
def MT (g g' : mj_F) : Prop := (∀ a q, ¬ (a = 223 ∧ (q = 0 ∨ 25 ≤ q ∧ q ≤ 33 ∨ 36 ≤ q ∧ q ≤ 41)) → ¬ (241 ≤ a ∧ a ≤ 251) → g' a q = g a q) ∧ g' 223 25 = 0
/-- a plan cleared -/
def clF (f : mj_F) (p : Nat) : mj_F := fillM (fillM (fillM (mj_u (mj_u (mj_u (mj_u (mj_u (mj_u f p 0 0) p 1 0) p 2 0) p 3 0) p 4 0) p 5 0) (p + 3) 4 0) (p + 4) 24 0) (p + 10) 16 0
section CLF
variable {f : mj_F} {p : Nat}
theorem clF_o {a q : Nat} (h : ¬ (p ≤ a ∧ a ≤ p + 12)) : clF f p a q = f a q := by
  unfold clF
  rw [fill_o (by omega), fill_o (by omega), fill_o (by omega), u_o (by omega), u_o (by omega), u_o (by omega), u_o (by omega), u_o (by omega), u_o (by omega)]
theorem clF_0 : clF f p p 0 = 0 := by
  unfold clF
  rw [fill_o (by omega), fill_o (by omega), fill_o (by omega), u_o (by omega), u_o (by omega), u_o (by omega), u_o (by omega), u_o (by omega), u_self]
theorem clF_1 : clF f p p 1 = 0 := by
  unfold clF
  rw [fill_o (by omega), fill_o (by omega), fill_o (by omega), u_o (by omega), u_o (by omega), u_o (by omega), u_o (by omega), u_self]
theorem clF_2 : clF f p p 2 = 0 := by
  unfold clF
  rw [fill_o (by omega), fill_o (by omega), fill_o (by omega), u_o (by omega), u_o (by omega), u_o (by omega), u_self]
theorem clF_3 : clF f p p 3 = 0 := by
  unfold clF
  rw [fill_o (by omega), fill_o (by omega), fill_o (by omega), u_o (by omega), u_o (by omega), u_self]
theorem clF_4 : clF f p p 4 = 0 := by
  unfold clF
  rw [fill_o (by omega), fill_o (by omega), fill_o (by omega), u_o (by omega), u_self]
theorem clF_5 : clF f p p 5 = 0 := by
  unfold clF
  rw [fill_o (by omega), fill_o (by omega), fill_o (by omega), u_self]
theorem clF_p3 {q : Nat} (h : q < 4) : clF f p (p + 3) q = 0 := by
  unfold clF
  rw [fill_o (by omega), fill_o (by omega), fill_in h]
theorem clF_p4 {q : Nat} (h : q < 24) : clF f p (p + 4) q = 0 := by
  unfold clF
  rw [fill_o (by omega), fill_in h]
theorem clF_p10 {q : Nat} (h : q < 16) : clF f p (p + 10) q = 0 := by
  unfold clF
  rw [fill_in h]
end CLF
section TR
variable {sw sw' : Bool} {w w' : mj_W}
theorem L_clear (hw : wk sw w) (f : mj_F) {p : Nat} (hp : pn p) : mj_call yL_clear w f [.inr (.inl p)] = some (w, clF f p, none) := by
  rw [c_L_clear hw _ _ hp, A_fill hw _ (pn_k8 hp hw) (by decide), mj_bu_some, A_fill hw _ (pn_k9 hp hw) (by decide), mj_bu_some, A_fill hw _ (pn_k15 hp hw) (by decide), mj_bu_some]
  rfl
theorem text_read (hw : wk sw w) (hw' : wk sw' w') {f g : mj_F} {n tp : Nat} (hn : n ≤ tp) (htp : tp ≤ 900) (g25 : g 223 25 = (tp : Int)) (ht : ∀ i, i < n → f 4 i = g 240 i ∧ -128 ≤ f 4 i ∧ f 4 i < 128) : ∃ (f' g' : mj_F) (r : Int), mj_call yR_readText w f [.inr (.inl 3), .inl (n : Int)] = some (w, f', some (.inl r)) ∧ CT (fr sw) f f' ∧ MT g g' ∧
    ((r = 1 ∧ mj_call yM_text w' g [.inr (.inl 223), .inl (n : Int)] = mj_bu (mj_call yM_becomes w' g' [.inr (.inl 223)]) (fun f7 => some (w', f7, some (.inl (f7 223 1)))) ∧ (f' 3 8 = 0 ∧ f' 3 9 = -1 ∧ g' 223 31 = 0 ∧ g' 223 32 = -1) ∧ ∃ (c np ne st ln : Nat) (sd : Int), 0 < np ∧ PJ (fr sw) f' g' c np ne st ln sd) ∨ (r = 0 ∧ mj_call yM_text w' g [.inr (.inl 223), .inl (n : Int)] = some (w', g', some (.inl (-1))) ∧ BJ f' g')) := by
  have hP := fr5 sw
  obtain ⟨f2, hf2⟩ : ∃ f2, f2 = mj_u (mj_u (mj_u (mj_u (clF f (fr sw)) 3 3 (n : Int)) 3 4 0) 3 8 0) 3 9 (-1) := ⟨_, rfl⟩
  obtain ⟨g2, hg2⟩ : ∃ g2, g2 = mj_u (mj_u (mj_u (mj_u (mj_u (mj_u (mj_u (mj_u (mj_u (mj_u (mj_u (mj_u (mj_u g 223 0 0) 223 26 (n : Int)) 223 33 0) 223 31 0) 223 32 (-1)) 223 36 0) 223 37 0) 223 38 0) 223 39 0) 223 40 0) 223 41 0) 223 27 0) 223 25 0 := ⟨_, rfl⟩
  have fo : ∀ a q, a ≠ 3 → f2 a q = clF f (fr sw) a q := fun a q h => by rw [hf2, u_o (by omega), u_o (by omega), u_o (by omega), u_o (by omega)]
  have go : ∀ a q, a ≠ 223 → g2 a q = g a q := fun a q h => by rw [hg2, u_o (by omega), u_o (by omega), u_o (by omega), u_o (by omega), u_o (by omega), u_o (by omega), u_o (by omega), u_o (by omega), u_o (by omega), u_o (by omega), u_o (by omega), u_o (by omega), u_o (by omega)]
  have ct2 : CT (fr sw) f f2 := fun a q h1 h2 => by
    by_cases z : a = 3
    · subst z
      rw [hf2, u_o (by omega), u_o (by omega), u_o (by omega), u_o (by omega), clF_o h2]
    · rw [fo a q z, clF_o h2]
  have mt2 : MT g g2 := by
    refine ⟨fun a q h1 h2 => ?_, by rw [hg2, u_self]⟩
    by_cases z : a = 223
    · subst z
      rw [hg2, u_o (by omega), u_o (by omega), u_o (by omega), u_o (by omega), u_o (by omega), u_o (by omega), u_o (by omega), u_o (by omega), u_o (by omega), u_o (by omega), u_o (by omega), u_o (by omega), u_o (by omega)]
    · exact go a q z
  have ec : mj_call yR_readText w f [.inr (.inl 3), .inl (n : Int)] = mj_bu (mj_call yR_advance w f2 [.inr (.inl 3)]) (fun f3 => mj_run yR_readText w f3 39 [.inr (.inl 3), .inl (n : Int), .inl 0] []) := by
    rw [c_R_readText hw, L_clear hw f (fr_pn sw), mj_bu_some, if_neg (show ¬ (900 : Int) < (n : Int) by omega), ← hf2]
  have em : mj_call yM_text w' g [.inr (.inl 223), .inl (n : Int)] = mj_bu (mj_call yM_advance w' g2 [.inr (.inl 223)]) (fun f3 => mj_run yM_text w' f3 84 [.inr (.inl 223), .inl (n : Int)] []) := by
    rw [c_M_text hw', u_o (show (223 : Nat) ≠ 223 ∨ 25 ≠ 0 by omega), g25, M_isIn hw', mj_bi_some, if_pos (show (0 : Int) ≤ (n : Int) ∧ (n : Int) ≤ (tp : Int) by omega), if_pos (show ¬ (1 : Int) = 0 by decide), ← hg2]
  have tp2 : TP f2 g2 (f 4) n := by
    refine ⟨by omega, ?_, ?_, fun i hi => ?_, fun i hi => ?_, fun i hi => (ht i hi).2⟩
    · rw [hf2, u_o (by omega), u_o (by omega), u_o (by omega), u_self]
    · rw [hg2, u_o (by omega), u_o (by omega), u_o (by omega), u_o (by omega), u_o (by omega), u_o (by omega), u_o (by omega), u_o (by omega), u_o (by omega), u_o (by omega), u_o (by omega), u_self]
    · rw [fo 4 i (by decide), clF_o (by omega)]
    · rw [go 240 i (by decide)]; exact (ht i hi).1.symm
  have pj2 : PJ (fr sw) f2 g2 0 0 0 0 0 0 := by
    have e4 : ∀ l, l < 24 → f2 (fr sw + 4) l = 0 := fun l hl => by rw [fo _ _ (by omega), clF_p4 hl]
    have e10 : ∀ l, l < 16 → f2 (fr sw + 10) l = 0 := fun l hl => by rw [fo _ _ (by omega), clF_p10 hl]
    have e3 : ∀ l, l < 4 → f2 (fr sw + 3) l = 0 := fun l hl => by rw [fo _ _ (by omega), clF_p3 hl]
    refine ⟨⟨by omega, ?_, ?_, fun i hi => absurd hi (by omega)⟩, ⟨by omega, by omega, Or.inl rfl, Or.inl rfl⟩, ⟨?_, ?_, ?_, ?_, ?_, ?_, ?_, ?_, ?_, ?_⟩, fun i hi => absurd hi (by omega), fun l hl => absurd hl (by omega), fun e he => absurd he (by omega), fun l _ hl => e4 l (by omega), fun e _ he => ⟨e4 _ (by omega), e10 e he⟩, fun l hl => by rw [e4 l hl]; omega, fun e he => by rw [e10 e he]; omega, fun i hi => ⟨by rw [e3 i hi]; omega, fun l k hl hk => ?_, fun e k he hk => ?_, Or.inl (e3 i hi)⟩⟩
    · rw [fo _ _ (by omega), clF_1]; rfl
    · rw [hg2]; rw [u_o (by omega), u_o (by omega), u_o (by omega), u_o (by omega), u_o (by omega), u_o (by omega), u_o (by omega), u_self]; rfl
    · rw [fo _ _ (by omega), clF_0]; rfl
    · rw [hg2]; rw [u_o (by omega), u_o (by omega), u_self]; rfl
    · rw [fo _ _ (by omega), clF_2]; rfl
    · rw [hg2]; rw [u_o (by omega), u_o (by omega), u_o (by omega), u_o (by omega), u_o (by omega), u_o (by omega), u_self]; rfl
    · rw [fo _ _ (by omega), clF_3]; rfl
    · rw [hg2]; rw [u_o (by omega), u_o (by omega), u_o (by omega), u_o (by omega), u_o (by omega), u_self]; rfl
    · rw [fo _ _ (by omega), clF_4]; rfl
    · rw [hg2]; rw [u_o (by omega), u_o (by omega), u_o (by omega), u_o (by omega), u_self]; rfl
    · rw [fo _ _ (by omega), clF_5]
    · rw [hg2]; rw [u_o (by omega), u_o (by omega), u_o (by omega), u_self]
    · rw [e4 l hl] at hk; omega
    · rw [e10 e he] at hk; omega
  have h33 : g2 223 33 = 0 := by rw [hg2, u_o (by omega), u_o (by omega), u_o (by omega), u_o (by omega), u_o (by omega), u_o (by omega), u_o (by omega), u_o (by omega), u_o (by omega), u_o (by omega), u_self]
  have h31 : g2 223 31 = 0 := by rw [hg2, u_o (by omega), u_o (by omega), u_o (by omega), u_o (by omega), u_o (by omega), u_o (by omega), u_o (by omega), u_o (by omega), u_o (by omega), u_self]
  have h32 : g2 223 32 = -1 := by rw [hg2, u_o (by omega), u_o (by omega), u_o (by omega), u_o (by omega), u_o (by omega), u_o (by omega), u_o (by omega), u_o (by omega), u_self]
  have h8 : f2 3 8 = 0 := by rw [hf2, u_o (by omega), u_self]
  have h9 : f2 3 9 = -1 := by rw [hf2, u_self]
  have h4 : f2 3 4 = ((0 : Nat) : Int) := by rw [hf2, u_o (by omega), u_o (by omega), u_self]; rfl
  have h27 : g2 223 27 = ((0 : Nat) : Int) := by rw [hg2, u_o (by omega), u_self]; rfl
  obtain ⟨f3, g3, p3, b3, k3, x3, t3, v3, a1, a2, a3, a4, a5, a6⟩ := adv_J hw hw' tp2 h4 h27 (by omega)
  obtain ⟨f4, g4, r, i1, i2, i3, i4⟩ := lines_both hw hw' (n : Int) (n : Int) (T := f 4) (n := n) n p3 b3 0 0 0 0 0 k3 x3 t3 v3 0 f3 g3 (by omega) (by omega) a3 (by rw [a6.2 33 (by omega)]; exact h33) (PJ_F hP a5 a6 pj2)
  have i1' : mj_run yR_readText w f3 39 [.inr (.inl 3), .inl (n : Int), .inl 0] [] = some (w, f4, some (.inl r)) := i1
  have ct4 : CT (fr sw) f f4 := fun a q h1 h2 => by
    rw [i2 a q (by omega) h2]
    by_cases z : a = 3
    · subst z
      rw [a5.2 q (by omega)]; exact ct2 _ _ h1 h2
    · rw [a5.1 a z]; exact ct2 _ _ h1 h2
  have mt4 : MT g g4 := by
    refine ⟨fun a q h1 h2 => ?_, ?_⟩
    · rw [i3 a q (by omega) h2]
      by_cases z : a = 223
      · subst z
        rw [a6.2 q (by omega)]; exact mt2.1 _ _ h1 h2
      · rw [a6.1 a z]; exact mt2.1 _ _ h1 h2
    · rw [i3 223 25 (by omega) (by omega), a6.2 25 (by omega)]; exact mt2.2
  refine ⟨f4, g4, r, ?_, ct4, mt4, ?_⟩
  · rw [ec, a1, mj_bu_some, i1']
  · rcases i4 with ⟨z1, z2, z3, z4⟩ | ⟨z1, z2, z3⟩
    · refine Or.inl ⟨z1, ?_, ⟨?_, ?_, ?_, ?_⟩, z4⟩
      · rw [em, a2, mj_bu_some, z2]
      · rw [z3.1, a5.2 8 (by omega)]; exact h8
      · rw [z3.2.1, a5.2 9 (by omega)]; exact h9
      · rw [z3.2.2.1, a6.2 31 (by omega)]; exact h31
      · rw [z3.2.2.2.1, a6.2 32 (by omega)]; exact h32
    · refine Or.inr ⟨z1, ?_, z3⟩
      rw [em, a2, mj_bu_some, z2]
theorem X_beginAnew (hw : wk sw w) {f : mj_F} {c : Nat} (hc4 : c ≤ 4) (hc : f (pl sw) 1 = (c : Int)) : ∃ f' : mj_F, mj_call yX_beginAnew w f [.inr (.inl 2)] = some (w, f', none) ∧ (∀ a q, ¬ (215 ≤ a ∧ a ≤ 222) → ¬ (a = 168 ∧ q = 1) → ¬ (a = 170 ∧ q = 4) → ¬ (a = 178 ∧ (q = 4 ∨ q = 5)) → f' a q = f a q) ∧ (f' 168 1 = 0 ∧ f' 170 4 = 1 ∧ f' 178 4 = 0 ∧ f' 178 5 = 0) ∧ ∀ t, t < 4 → f' (215 + 2 * t) 1 = ((c + 1 : Nat) : Int) ∧ f' (215 + 2 * t) 2 = 0 ∧ ∀ i j, i < 6 → j < 6 → gm (216 + 2 * t) 6 f' i j = 1 := by
  have hp := pl_o sw
  rw [c_X_beginAnew hw]
  have L : ∀ (d t : Nat) (h : mj_F), 4 - t = d → t ≤ 4 → h (pl sw) 1 = (c : Int) → (∀ s, s < t → h (215 + 2 * s) 1 = ((c + 1 : Nat) : Int) ∧ h (215 + 2 * s) 2 = 0 ∧ ∀ i j, i < 6 → j < 6 → gm (216 + 2 * s) 6 h i j = 1) → ∃ f' : mj_F, mj_run yX_beginAnew w h 2 [.inr (.inl 2), .inl (t : Int)] [] = some (w, f', none) ∧ (∀ a q, ¬ (215 ≤ a ∧ a ≤ 222) → ¬ (a = 168 ∧ q = 1) → ¬ (a = 170 ∧ q = 4) → ¬ (a = 178 ∧ (q = 4 ∨ q = 5)) → f' a q = h a q) ∧ (f' 168 1 = 0 ∧ f' 170 4 = 1 ∧ f' 178 4 = 0 ∧ f' 178 5 = 0) ∧ ∀ t, t < 4 → f' (215 + 2 * t) 1 = ((c + 1 : Nat) : Int) ∧ f' (215 + 2 * t) 2 = 0 ∧ ∀ i j, i < 6 → j < 6 → gm (216 + 2 * t) 6 f' i j = 1 := by
    intro d
    induction d with
    | zero =>
      intro t h h1 h2 h3 h4
      have : t = 4 := by omega
      subst this
      refine ⟨_, by rw [l_X_beginAnew_2 hw, if_pos (by omega), c_H_forgetAll hw, mj_bu_some], fun a q y1 y2 y3 y4 => ?_, ⟨?_, ?_, ?_, ?_⟩, fun t ht => ?_⟩
      · rw [u_o (by omega), u_o (by omega), u_o (by omega), u_o (by omega)]
      · rw [u_o (by omega), u_o (by omega), u_o (by omega), u_self]
      · rw [u_o (by omega), u_o (by omega), u_self]
      · rw [u_o (by omega), u_self]
      · rw [u_self]
      · have e : ∀ a q, 215 ≤ a → mj_u (mj_u (mj_u (mj_u h 168 1 0) 170 4 1) 178 4 0) 178 5 0 a q = h a q := fun a q ha => by rw [u_o (by omega), u_o (by omega), u_o (by omega), u_o (by omega)]
        obtain ⟨z1, z2, z3⟩ := h4 t ht
        refine ⟨by rw [e _ _ (by omega)]; exact z1, by rw [e _ _ (by omega)]; exact z2, fun i j hi hj => ?_⟩
        have z := z3 i j hi hj
        unfold gm at z ⊢
        rw [e _ _ (by omega)]; exact z
    | succ d ih =>
      intro t h h1 h2 h3 h4
      have zt := zn215 (show t < 4 by omega)
      rw [l_X_beginAnew_2 hw, if_neg (by omega), mj_gd_pos (by omega), Int.toNat_natCast, h3, wS (by omega), Z_layZero hw zt, mj_bu_some, wS (by omega)]
      obtain ⟨f', b1, b2, b3, b4⟩ := ih (t + 1) (zs (215 + 2 * t) h ((c + 1 : Nat) : Int) 0 (fun _ _ => 1)) (by omega) (by omega) (by rw [zs_o (by omega) (by omega)]; exact h3) (fun s hs => by
        by_cases z : s = t
        · subst z
          refine ⟨zs_n, zs_v, fun i j hi hj => ?_⟩
          rw [show 216 + 2 * s = 215 + 2 * s + 1 by omega]
          exact zs_c (C := fun _ _ => 1) hi hj
        · obtain ⟨z1, z2, z3⟩ := h4 s (by omega)
          refine ⟨by rw [zs_o (by omega) (by omega)]; exact z1, by rw [zs_o (by omega) (by omega)]; exact z2, fun i j hi hj => ?_⟩
          have z := z3 i j hi hj
          unfold gm at z ⊢
          rw [zs_o (by omega) (by omega)]; exact z)
      refine ⟨f', b1, fun a q y1 y2 y3 y4 => ?_, b3, b4⟩
      rw [b2 a q y1 y2 y3 y4]
      exact zs_o (by omega) (by omega)
  exact L 4 0 f (by omega) (by omega) hc (fun s hs => absurd hs (by omega))
end TR
/-- the plan that was read is the same in both -/
theorem GO_of {P : Nat} {f g H : mj_F} {c np ne st ln : Nat} {sd : Int} (pj : PJ P f g c np ne st ln sd) (r4 : ∀ q, q < 24 → H 224 q = g 243 q) (r5 : ∀ q, q < 144 → H 225 q = g 244 q) (r7 : ∀ q, q < 144 → H 227 q = g 246 q) (s0 : ∀ q, q < 16 → H 230 q = g 249 q) (s1 : ∀ q, q < 64 → H 231 q = g 250 q) (s2 : ∀ q, q < 64 → H 232 q = g 251 q) : GO H np ne := by
  obtain ⟨nj, ⟨hnp, hne, -, -⟩, -, -, q1, q2, -, -, -⟩ := pj
  have hc4 := nj.1
  have lj : ∀ l m, l < 24 → LJ f g P c l m → ∃ m : Nat, H 224 l = (m : Int) ∧ m ≤ 6 ∧ ∀ k, k < m → (∃ i : Nat, i < 4 ∧ H 225 (6 * l + k) = (i : Int)) ∧ 0 ≤ H 227 (6 * l + k) ∧ H 227 (6 * l + k) ≤ 50 := by
    rintro l m hl ⟨m6, -, e1, e2⟩
    refine ⟨m, by rw [r4 l hl]; exact e1, m6, fun k hk => ?_⟩
    obtain ⟨-, ⟨y1, y2⟩, -, y3⟩ := e2 k hk
    rw [r5 _ (by omega), r7 _ (by omega)]
    exact ⟨⟨(g 244 (6 * l + k)).toNat, by omega, by omega⟩, y3⟩
  refine ⟨fun l hl h8 => ?_, fun e he => ?_⟩
  · by_cases h : l < np
    · obtain ⟨m, a⟩ := q1 l h
      exact lj l m (by omega) a
    · obtain ⟨e, rfl⟩ : ∃ e, l = 8 + e := ⟨l - 8, by omega⟩
      obtain ⟨⟨m, a⟩, -⟩ := q2 e (by omega)
      exact lj _ m (by omega) a
  · obtain ⟨-, ⟨m, m4, -, e1, e2, -⟩, -⟩ := q2 e he
    refine ⟨m, by rw [s0 e (by omega)]; exact e1, m4, fun k hk => ?_⟩
    obtain ⟨-, ⟨y1, y2⟩, y3⟩ := e2 k hk
    rw [s1 _ (by omega), s2 _ (by omega)]
    exact ⟨⟨(g 250 (4 * e + k)).toNat, by omega, by omega⟩, y3⟩
theorem RA_of {sw : Bool} {P : Nat} (hPl : pl sw = P) {f g H : mj_F} {c np ne st ln : Nat} {sd : Int} (h0 : 0 < np) (pj : PJ P f g c np ne st ln sd) (hp : ∀ k, k ≤ 12 → H (P + k) = f (P + k)) (n1 : H 223 1 = g 223 41) (n2 : H 223 2 = g 223 36) (n3 : H 223 3 = g 223 37) (n4 : H 223 4 = g 223 38) (n5 : H 223 5 = g 223 39) (r4 : ∀ q, q < 24 → H 224 q = g 243 q) (r5 : ∀ q, q < 144 → H 225 q = g 244 q) (r6 : ∀ q, q < 144 → H 226 q = g 245 q) (r7 : ∀ q, q < 144 → H 227 q = g 246 q) (r8 : ∀ q, q < 16 → H 228 q = g 247 q) (r9 : ∀ q, q < 16 → H 229 q = g 248 q) (s0 : ∀ q, q < 16 → H 230 q = g 249 q) (s1 : ∀ q, q < 64 → H 231 q = g 250 q) (s2 : ∀ q, q < 64 → H 232 q = g 251 q) (gx : GX H (TO H np (8 + ne)) (TO H np (8 + ne))) : RA sw H c np ne st := by
  obtain ⟨⟨hc4, nj1, nj2, nj3⟩, ⟨hnp, hne, hst, -⟩, ⟨m0, m1, m2, m3, m4, m5, m6, m7, -, -⟩, -, q1, q2, q3, q4, gu⟩ := pj
  have hp0 : ∀ q, H P q = f P q := fun q => by
    have := hp 0 (by omega)
    rw [Nat.add_zero] at this
    rw [this]
  have lj : ∀ l m, l < 24 → LJ f g P c l m → sL H P (c + 1) l := by
    rintro l m hl ⟨m6, e0, e1, e2⟩
    refine ⟨m, m6, by rw [hp 4 (by omega)]; exact e0, by rw [r4 l hl]; exact e1, fun k hk => ?_, fun k hk => ?_⟩
    · obtain ⟨⟨y1, y2, y3⟩, -, -, -⟩ := e2 k hk
      rw [hp 5 (by omega), hp 6 (by omega), hp 7 (by omega), r5 _ (by omega), r6 _ (by omega), r7 _ (by omega)]
      exact ⟨y1, y2, y3⟩
    · obtain ⟨-, ⟨y1, y2⟩, ⟨y3, y4⟩, y5, y6⟩ := e2 k hk
      show 0 ≤ H 225 (6 * l + k) ∧ (H 225 (6 * l + k)).toNat + 1 < c + 1 ∧ 0 ≤ H 226 (6 * l + k) ∧ H 226 (6 * l + k) ≤ 4 ∧ 0 ≤ H 227 (6 * l + k) ∧ H 227 (6 * l + k) ≤ 50
      rw [r5 _ (by omega), r6 _ (by omega), r7 _ (by omega)]
      omega
  rw [← hPl] at *
  refine ⟨⟨hc4, hnp, hne, by omega, by omega, fun e he k k' hk hk' => ?_⟩, ⟨?_, ?_, ?_, ?_, ?_, ?_, ?_, ?_, ?_⟩, fun l hl => ?_, fun e he => ?_, gx.1, fun i hi => ?_⟩
  · obtain ⟨-, ⟨m, mm, -, e1, -, e3⟩, -⟩ := q2 e he
    rw [s0 e (by omega), e1] at hk'
    rw [s1 _ (by omega), s1 _ (by omega)]
    exact e3 k k' hk (by omega)
  · rw [hp0, n1, m0, m1]
  · rw [hp0]; exact nj1
  · rw [n2]; exact nj2
  · rw [hp0]; exact m2
  · rw [n3]; exact m3
  · rw [hp0]; exact m4
  · rw [n4]; exact m5
  · rw [hp0]; exact m6
  · rw [n5]; exact m7
  · obtain ⟨m, a⟩ := q1 l hl
    exact lj l m (by omega) a
  · obtain ⟨⟨m, a⟩, ⟨m', mm, e0, e1, e2, -⟩, x, y, hx, hy, z1, z2, z3, z4⟩ := q2 e he
    refine ⟨lj _ m (by omega) a, ⟨m', mm, ?_, ?_, fun k hk => ?_, fun k hk => ?_⟩, x, y, hx, hy, ?_, ?_, ?_, ?_⟩
    · rw [hp 10 (by omega)]; exact e0
    · rw [s0 e (by omega)]; exact e1
    · rw [hp 11 (by omega), hp 12 (by omega), s1 _ (by omega), s2 _ (by omega)]
      exact (e2 k hk).1
    · obtain ⟨-, ⟨y1, y2⟩, y3, y4⟩ := e2 k hk
      rw [s1 _ (by omega), s2 _ (by omega)]
      omega
    · rw [hp 8 (by omega)]; exact z1
    · rw [r8 e (by omega)]; exact z2
    · rw [hp 9 (by omega)]; exact z3
    · rw [r9 e (by omega)]; exact z4
  · obtain ⟨⟨v1, v2⟩, v3, v4⟩ := gx.2 i (by omega)
    obtain ⟨g1, g2, g3⟩ := gu
    obtain ⟨⟨u1, u2⟩, u3, u4, u5⟩ := g3 i (by omega)
    rw [hp 3 (by omega)]
    refine ⟨?_, v1, v2⟩
    have tow : ∀ l k : Nat, l < 8 + ne → (l < np ∨ 8 ≤ l) → (k : Int) < f (pl sw + 4) l → f (pl sw + 5) (6 * l + k) = (i : Int) → TO H np (8 + ne) i (f (pl sw + 7) (6 * l + k)) := fun l k hl hl8 hk he => by
      have lm : ∃ m, LJ f g (pl sw) c l m := by
        by_cases h : l < np
        · exact q1 l h
        · obtain ⟨e, rfl⟩ : ∃ e, l = 8 + e := ⟨l - 8, by omega⟩
          exact (q2 e (by omega)).1
      obtain ⟨m, m6, e0, e1, e2⟩ := lm
      rw [e0] at hk
      have hk' : k < m := by omega
      obtain ⟨⟨y1, y2, y3⟩, -, -, -⟩ := e2 k hk'
      refine Or.inl ⟨l, hl, hl8, k, by rw [r4 l (by omega), e1]; omega, ?_, ?_⟩
      · rw [r5 _ (by omega), ← y1]; exact he
      · rw [r7 _ (by omega), y3]
    have tos : ∀ e k : Nat, e < ne → (k : Int) < f (pl sw + 10) e → f (pl sw + 11) (4 * e + k) = (i : Int) → TO H np (8 + ne) i (f (pl sw + 12) (4 * e + k)) := fun e k he hk hi' => by
      obtain ⟨-, ⟨m', mm, e0, e1, e2, -⟩, -⟩ := q2 e he
      rw [e0] at hk
      have hk' : k < m' := by omega
      obtain ⟨⟨y1, y2⟩, -, -⟩ := e2 k hk'
      refine Or.inr ⟨e, by omega, k, by rw [s0 e (by omega), e1]; omega, ?_, ?_⟩
      · rw [s1 _ (by omega), ← y1]; exact hi'
      · rw [s2 _ (by omega), y2]
    have le1 : f (pl sw + 3) i ≤ H 233 (i + 1) := by
      rcases u5 with z | ⟨l, k, z1, z2, z3, z4⟩ | ⟨e, k, z1, z2, z3, z4⟩
      · omega
      · rw [← z4]
        by_cases hl : l < np
        · exact v3 _ (tow l k (by omega) (Or.inl hl) z2 z3)
        · by_cases h8 : l < 8
          · rw [q3 l (by omega) h8] at z2
            omega
          · by_cases h9 : l < 8 + ne
            · exact v3 _ (tow l k h9 (by omega) z2 z3)
            · have := (q4 (l - 8) (by omega) (by omega)).1
              rw [show 8 + (l - 8) = l by omega] at this
              rw [this] at z2
              omega
      · rw [← z4]
        by_cases h9 : e < ne
        · exact v3 _ (tos e k h9 z2 z3)
        · rw [(q4 e (by omega) (by omega)).2] at z2
          omega
    have le2 : H 233 (i + 1) ≤ f (pl sw + 3) i := by
      rcases v4 with z | ⟨l, hl, hl8, k, hk, z1, z2⟩ | ⟨e, he, k, hk, z1, z2⟩
      · omega
      · have lm : ∃ m, LJ f g (pl sw) c l m := by
          by_cases h : l < np
          · exact q1 l h
          · obtain ⟨e, rfl⟩ : ∃ e, l = 8 + e := ⟨l - 8, by omega⟩
            exact (q2 e (by omega)).1
        obtain ⟨m, m6, e0, e1, e2⟩ := lm
        rw [r4 l (by omega), e1, Int.toNat_natCast] at hk
        obtain ⟨⟨y1, y2, y3⟩, -, -, -⟩ := e2 k hk
        rw [← z2, r7 _ (by omega), ← y3]
        refine u3 l k (by omega) (by rw [e0]; omega) ?_
        rw [y1, ← r5 _ (by omega)]; exact z1
      · obtain ⟨-, ⟨m', mm, e0, e1, e2, -⟩, -⟩ := q2 e (by omega)
        rw [s0 e (by omega), e1, Int.toNat_natCast] at hk
        obtain ⟨⟨y1, y2⟩, -, -⟩ := e2 k hk
        rw [← z2, s2 _ (by omega), ← y2]
        refine u4 e k (by omega) (by rw [e0]; omega) ?_
        rw [y1, ← s1 _ (by omega)]; exact z1
    omega
