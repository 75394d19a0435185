/-! The rules of a list, in both. -/
def BJ (f g : mj_F) : Prop := g 223 33 = 1 ∧ f 3 8 = g 223 31 ∧ f 3 9 = g 223 32
def NJ (f g : mj_F) (P c : Nat) : Prop := c ≤ 4 ∧ f P 1 = (c : Int) ∧ g 223 36 = (c : Int) ∧ ∀ i, i < c → f (P + 1) i = g 241 i
def LJ (f g : mj_F) (P c l m : Nat) : Prop := m ≤ 6 ∧ f (P + 4) l = (m : Int) ∧ g 243 l = (m : Int) ∧ ∀ k : Nat, k < m → (f (P + 5) (6 * l + k) = g 244 (6 * l + k) ∧ f (P + 6) (6 * l + k) = g 245 (6 * l + k) ∧ f (P + 7) (6 * l + k) = g 246 (6 * l + k)) ∧ (0 ≤ g 244 (6 * l + k) ∧ g 244 (6 * l + k) < (c : Int)) ∧ (0 ≤ g 245 (6 * l + k) ∧ g 245 (6 * l + k) ≤ 4) ∧ 0 ≤ g 246 (6 * l + k) ∧ g 246 (6 * l + k) ≤ 50
def WC (P l : Nat) (f f' : mj_F) : Prop := ∀ a q, ¬ (a = 3 ∧ 4 ≤ q ∧ q ≤ 9) → ¬ (a = P + 3) → ¬ (a = P + 4 ∧ q = l) → ¬ (P + 5 ≤ a ∧ a ≤ P + 7 ∧ 6 * l ≤ q ∧ q < 6 * l + 6) → f' a q = f a q
def WM (l : Nat) (g g' : mj_F) : Prop := ∀ a q, ¬ (a = 223 ∧ 27 ≤ q ∧ q ≤ 33) → ¬ (a = 243 ∧ q = l) → ¬ (244 ≤ a ∧ a ≤ 246 ∧ 6 * l ≤ q ∧ q < 6 * l + 6) → g' a q = g a q
theorem WC_t {P l : Nat} {f f' f'' : mj_F} (a : WC P l f f') (b : WC P l f' f'') : WC P l f f'' := fun x q h1 h2 h3 h4 => (b x q h1 h2 h3 h4).trans (a x q h1 h2 h3 h4)
theorem WM_t {l : Nat} {f f' f'' : mj_F} (a : WM l f f') (b : WM l f' f'') : WM l f f'' := fun x q h1 h2 h3 => (b x q h1 h2 h3).trans (a x q h1 h2 h3)
theorem WC_F {P l : Nat} {f f' : mj_F} (a : Fc f f') : WC P l f f' := fun x q h1 _ _ _ => by
  by_cases h : x = 3
  · subst h; exact a.2 q (by omega)
  · rw [a.1 x h]
theorem WM_F {l : Nat} {f f' : mj_F} (a : Fm f f') : WM l f f' := fun x q h1 _ _ => by
  by_cases h : x = 223
  · subst h; exact a.2 q (by omega)
  · rw [a.1 x h]
theorem WC_b {P l : Nat} (f : mj_F) (k : Int) : WC P l f (cbad f k) := fun x q h1 _ _ _ => cbad_o f k (by omega)
theorem WM_b {l : Nat} (f : mj_F) (k : Int) : WM l f (mbad f k) := fun x q h1 _ _ => mbad_o f k (by omega)
theorem WC_A {P l m i : Nat} (hm : m < 6) (f : mj_F) (rel num : Int) : WC P l f (AR f P l m i rel num) := by
  intro x q h1 h2 h3 h4
  by_cases e4 : x = P + 4
  · subst e4; rw [AR_4, if_neg (by omega)]
  by_cases e5 : x = P + 5
  · subst e5; rw [AR_5, if_neg (by omega)]
  by_cases e6 : x = P + 6
  · subst e6; rw [AR_6, if_neg (by omega)]
  by_cases e7 : x = P + 7
  · subst e7; rw [AR_7, if_neg (by omega)]
  exact AR_o (by omega)
/-- a rule more, in the reference -/
def AM (g : mj_F) (l m : Nat) (i rel num : Int) : mj_F := mj_u (mj_u (mj_u (mj_u g 244 (6 * l + m) i) 245 (6 * l + m) rel) 246 (6 * l + m) num) 243 l ((m + 1 : Nat) : Int)
section AML
variable {f : mj_F} {l m : Nat} {i rel num : Int}
theorem AM_3 (q : Nat) : AM f l m i rel num 243 q = if q = l then ((m + 1 : Nat) : Int) else f 243 q := by
  unfold AM
  by_cases h : q = l
  · rw [if_pos h, h, u_self]
  · rw [if_neg h, u_o (Or.inr h), u_o (by omega), u_o (by omega), u_o (by omega)]
theorem AM_4 (q : Nat) : AM f l m i rel num 244 q = if q = 6 * l + m then i else f 244 q := by
  unfold AM
  by_cases h : q = 6 * l + m
  · rw [if_pos h, h, u_o (by omega), u_o (by omega), u_o (by omega), u_self]
  · rw [if_neg h, u_o (by omega), u_o (by omega), u_o (by omega), u_o (Or.inr h)]
theorem AM_5 (q : Nat) : AM f l m i rel num 245 q = if q = 6 * l + m then rel else f 245 q := by
  unfold AM
  by_cases h : q = 6 * l + m
  · rw [if_pos h, h, u_o (by omega), u_o (by omega), u_self]
  · rw [if_neg h, u_o (by omega), u_o (by omega), u_o (Or.inr h), u_o (by omega)]
theorem AM_6 (q : Nat) : AM f l m i rel num 246 q = if q = 6 * l + m then num else f 246 q := by
  unfold AM
  by_cases h : q = 6 * l + m
  · rw [if_pos h, h, u_o (by omega), u_self]
  · rw [if_neg h, u_o (by omega), u_o (Or.inr h), u_o (by omega), u_o (by omega)]
theorem AM_o {a q : Nat} (h : ¬ (243 ≤ a ∧ a ≤ 246)) : AM f l m i rel num a q = f a q := by
  unfold AM
  rw [u_o (by omega), u_o (by omega), u_o (by omega), u_o (by omega)]
theorem WM_A (hm : m < 6) : WM l f (AM f l m i rel num) := by
  intro x q h1 h2 h3
  by_cases e3 : x = 243
  · subst e3; rw [AM_3, if_neg (by omega)]
  by_cases e4 : x = 244
  · subst e4; rw [AM_4, if_neg (by omega)]
  by_cases e5 : x = 245
  · subst e5; rw [AM_5, if_neg (by omega)]
  by_cases e6 : x = 246
  · subst e6; rw [AM_6, if_neg (by omega)]
  exact AM_o (by omega)
end AML
section WB
variable {sw sw' : Bool} {w w' : mj_W}
theorem R_clockHere (hw : wk sw w) (f : mj_F) {c : Nat} (hc : c ≤ 4) (h : f (fr sw) 1 = (c : Int)) : mj_call yR_clockHere w f [.inr (.inl 3)] = some (w, f, some (.inl (if f 3 5 = 1 then fi (f (fr sw + 1)) (f 3 7) c else -1))) := by
  rw [c_R_clockHere hw]
  by_cases a : f 3 5 = 1
  · rw [if_neg (fun z => z a), if_pos a, c_L_clockNamed hw _ _ _ (fr_pn sw), h, L_indexIn hw f (pn_k6 (fr_pn sw) hw) hc (by omega), mj_bi_some, mj_bi_some]
  · rw [if_pos a, if_neg a]
theorem R_placeHere (hw : wk sw w) (f : mj_F) {c : Nat} (hc : c ≤ 8) (h : f (fr sw) 2 = (c : Int)) : mj_call yR_placeHere w f [.inr (.inl 3)] = some (w, f, some (.inl (if f 3 5 = 1 then fi (f (fr sw + 2)) (f 3 7) c else -1))) := by
  rw [c_R_placeHere hw]
  by_cases a : f 3 5 = 1
  · rw [if_neg (fun z => z a), if_pos a, c_L_placeNamed hw _ _ _ (fr_pn sw), h, L_indexIn hw f (pn_k7 (fr_pn sw) hw) hc (by omega), mj_bi_some, mj_bi_some]
  · rw [if_pos a, if_neg a]
theorem R_number_y (hw : wk sw w) {f : mj_F} (h : f 3 5 = 2) (h1 : f 3 7 ≤ 50) : mj_call yR_numberHere w f [.inr (.inl 3)] = some (w, f, some (.inl 1)) := by
  rw [c_R_numberHere hw, if_pos h, if_pos h1]
theorem R_number_n (hw : wk sw w) {f : mj_F} (h : ¬ (f 3 5 = 2 ∧ f 3 7 ≤ 50)) : mj_call yR_numberHere w f [.inr (.inl 3)] = some (w, cbad f (if f 3 5 = 2 then 2 else 1), some (.inl 0)) := by
  rw [c_R_numberHere hw]
  by_cases a : f 3 5 = 2
  · rw [if_pos a, if_pos a, if_neg (fun z => h ⟨a, z⟩), R_fail hw, mj_bi_some, if_pos rfl]
  · rw [if_neg a, if_neg a, R_fail hw, mj_bi_some, mj_gd_pos (by decide)]
theorem ixW {l m : Nat} (hl : l < 24) (hm : m < 6) : mj_w ((mj_w (6 * (l : Int))) + (m : Int)) = ((6 * l + m : Nat) : Int) := by
  rw [w_id (a := 6 * (l : Int)) (by omega), w_id (by omega)]
  omega
theorem whens_95 (hw' : wk sw' w') {g : mj_F} (h : g 223 33 = 1) (x1 x2 x3 : Int) (u4 u5 : mj_V) : mj_run yM_whensHere w' g 95 [.inr (.inl 223), .inl x1, .inl x2, .inl x3, u4, u5] [] = some (w', g, none) := by
  obtain ⟨v, hv⟩ := M_number_b hw' h
  rw [l_M_whensHere_95 hw', hv, mj_bi_some, if_neg (by omega)]
theorem whens_75 (hw' : wk sw' w') {g : mj_F} (h : g 223 33 = 1) (x1 x2 y : Int) (u3 u4 u5 : mj_V) : mj_run yM_whensHere w' g 75 [.inr (.inl 223), .inl x1, .inl x2, u3, u4, u5] [.inl y, .inr (.inl 223)] = some (w', g, none) := by
  rw [l_M_whensHere_75 hw', M_must_b hw' h, mj_bu_some, if_pos (by omega), whens_95 hw' h]
theorem whens_61 (hw' : wk sw' w') {g : mj_F} (h : g 223 33 = 1) (x1 x2 : Int) (u3 u4 u5 : mj_V) : mj_run yM_whensHere w' g 61 [.inr (.inl 223), .inl x1, .inl x2, u3, u4, u5] [] = some (w', g, none) := by
  rw [l_M_whensHere_61 hw']
  by_cases a : g 223 29 = 4
  · rw [if_neg (fun z => z a), whens_75 hw' h]
  · rw [if_pos a, whens_75 hw' h]
/-- nothing is said to be wrong -/
def okF (f f' g g' : mj_F) : Prop := f' 3 8 = f 3 8 ∧ f' 3 9 = f 3 9 ∧ g' 223 31 = g 223 31 ∧ g' 223 32 = g 223 32 ∧ g' 223 33 = 0
theorem okF_F {f f' g g' : mj_F} (a : Fc f f') (b : Fm g g') (h : g 223 33 = 0) : okF f f' g g' := ⟨a.2 8 (by omega), a.2 9 (by omega), b.2 31 (by omega), b.2 32 (by omega), (b.2 33 (by omega)).trans h⟩
theorem okF_t {f f' f'' g g' g'' : mj_F} (a : okF f f' g g') (b : okF f' f'' g' g'') : okF f f'' g g'' := ⟨b.1.trans a.1, b.2.1.trans a.2.1, b.2.2.1.trans a.2.2.1, b.2.2.2.1.trans a.2.2.2.1, b.2.2.2.2⟩
theorem NJ_F {f f' g g' : mj_F} {P c : Nat} (hP : 5 ≤ P) (a : Fc f f') (b : Fm g g') (h : NJ f g P c) : NJ f' g' P c := by
  obtain ⟨h1, h2, h3, h4⟩ := h
  refine ⟨h1, ?_, (b.2 36 (by omega)).trans h3, fun i hi => ?_⟩
  · rw [a.1 P (by omega)]; exact h2
  · rw [a.1 (P + 1) (by omega), b.1 241 (by omega)]; exact h4 i hi
theorem LJ_F {f f' g g' : mj_F} {P c l m : Nat} (hP : 5 ≤ P) (a : Fc f f') (b : Fm g g') (h : LJ f g P c l m) : LJ f' g' P c l m := by
  unfold LJ at h ⊢
  rw [a.1 (P + 4) (by omega), a.1 (P + 5) (by omega), a.1 (P + 6) (by omega), a.1 (P + 7) (by omega), b.1 243 (by omega), b.1 244 (by omega), b.1 245 (by omega), b.1 246 (by omega)]
  exact h
theorem BJ_b {f g : mj_F} {T : Nat → Int} {n p b : Nat} {k x t v : Int} (h : TJ f g T n p b k x t v) (z : Int) : BJ (cbad f z) (mbad g z) := by
  refine ⟨mbad_33 _ _, ?_, ?_⟩
  · rw [cbad_8, mbad_31]
  · rw [cbad_9, mbad_32, h.2.2.2.2.1, h.2.2.2.2.2.1]
theorem fr5 (sw : Bool) : 5 ≤ fr sw ∧ fr sw ≤ 18 := by have := fr_pn sw; unfold pn at this; omega
theorem TJ_wr {f g f' g' : mj_F} {T : Nat → Int} {n p b : Nat} {k x t v : Int} (h : TJ f g T n p b k x t v) (h3 : f' 3 = f 3) (h4 : f' 4 = f 4) (h5 : g' 223 = g 223) (h6 : g' 240 = g 240) : TJ f' g' T n p b k x t v := by
  unfold TJ TP at h ⊢
  rw [h3, h4, h5, h6]
  exact h
theorem whens_both (hw : wk sw w) (hw' : wk sw' w') {T : Nat → Int} {n c l : Nat} (hl : l < 24) : ∀ (d m : Nat) (f g : mj_F) (p b : Nat) (k x t v : Int) (u3 u4 v2 v3 v4 v5 : mj_V), 6 - m = d → TJ f g T n p b k x t v → g 223 33 = 0 → NJ f g (fr sw) c → LJ f g (fr sw) c l m → GU f (fr sw) → ∃ (f' g' : mj_F) (r : Int), mj_run yR_readWhens w f 2 [.inr (.inl 3), .inl (l : Int), .inl (m : Int), u3, u4] [] = some (w, f', some (.inl r)) ∧ mj_run yM_whensHere w' g 7 [.inr (.inl 223), .inl (l : Int), v2, v3, v4, v5] [] = some (w', g', none) ∧ WC (fr sw) l f f' ∧ WM l g g' ∧ ((r = 1 ∧ okF f f' g g' ∧ (∃ (p' b' : Nat) (k' x' t' v' : Int), TJ f' g' T n p' b' k' x' t' v' ∧ b ≤ b') ∧ GU f' (fr sw) ∧ ∃ m', LJ f' g' (fr sw) c l m') ∨ (r = 0 ∧ BJ f' g')) := by
  have hP := fr5 sw
  intro d
  induction d with
  | zero =>
    intro m f g p b k x t v u3 u4 v2 v3 v4 v5 hd tj h33 nj lj gu
    have hm : m = 6 := by have := lj.1; omega
    subst hm
    obtain ⟨tp, j1, j2, j3, j4, j5, j6, j7, j8, tk, j9⟩ := id tj
    rw [l_R_readWhens_2 hw, if_neg (by decide), l_M_whensHere_7 hw', M_isWord hw' h33, mj_bi_some, j3, j7, j8]
    by_cases hk : k = 9
    · have hk' := (TK_9 tk).1 hk
      refine ⟨cbad f 2, mbad g 2, 0, ?_, ?_, WC_b _ _, WM_b _ _, Or.inr ⟨rfl, BJ_b tj 2⟩⟩
      · rw [if_neg (fun z => z hk), if_neg (fun z => z rfl), R_fail hw, mj_bi_some, mj_gd_pos (by decide)]
      · rw [if_pos hk', if_neg (by decide), mj_gd_pos (by omega), Int.toNat_natCast, lj.2.2.1, if_pos (by decide), l_M_whensHere_33 hw', M_opens_n hw' h33, mj_bu_some]
        have e36 : mbad g 2 223 36 = (c : Int) := by rw [mbad_o _ _ (by omega)]; exact nj.2.2.1
        rw [e36]
        obtain ⟨y, hy⟩ := M_seen_b hw' (r := 241) (m := c) (g := mbad g 2) (k_241 hw') nj.1 (by omega) (mbad_33 _ _)
        rw [hy, mj_bi_some, if_pos (by rw [mbad_33]; decide), whens_61 hw' (mbad_33 _ _)]
    · have hk' : ¬ (t = 1 ∧ v = 762030) := fun z => hk ((TK_9 tk).2 z)
      refine ⟨f, g, 1, ?_, ?_, fun _ _ _ _ _ _ => rfl, fun _ _ _ _ _ => rfl, Or.inl ⟨rfl, ⟨rfl, rfl, rfl, rfl, h33⟩, ⟨p, b, k, x, t, v, tj, Nat.le_refl _⟩, gu, 6, lj⟩⟩
      · rw [if_pos hk]
      · rw [if_neg hk', if_pos rfl]
  | succ d ih =>
    intro m f g p b k x t v u3 u4 v2 v3 v4 v5 hd tj h33 nj lj gu
    have hm : m < 6 := by omega
    obtain ⟨tp, j1, j2, j3, j4, j5, j6, j7, j8, tk, j9, j10, j11⟩ := id tj
    rw [l_R_readWhens_2 hw, if_neg (show ¬ (6 : Int) < (m : Int) by omega), l_M_whensHere_7 hw', M_isWord hw' h33, mj_bi_some, j3, j7, j8]
    by_cases hk : k = 9
    rotate_left
    · have hk' : ¬ (t = 1 ∧ v = 762030) := fun z => hk ((TK_9 tk).2 z)
      refine ⟨f, g, 1, ?_, ?_, fun _ _ _ _ _ _ => rfl, fun _ _ _ _ _ => rfl, Or.inl ⟨rfl, ⟨rfl, rfl, rfl, rfl, h33⟩, ⟨p, b, k, x, t, v, tj, Nat.le_refl _⟩, gu, m, lj⟩⟩
      · rw [if_pos hk]
      · rw [if_neg hk', if_pos rfl]
    have hk' := (TK_9 tk).1 hk
    rw [if_neg (fun z => z hk), if_pos (show ¬ (m : Int) = 6 by omega), if_pos hk', if_neg (show ¬ (1 : Int) = 0 by decide), mj_gd_pos (by omega), Int.toNat_natCast, lj.2.2.1, if_neg (show ¬ (6 : Int) ≤ (m : Int) by omega), l_M_whensHere_33 hw', M_opens_y hw' h33 (by decide)]
    obtain ⟨f1, g1, p1, b1, k1, x1, t1, w1, a1, a2, a3, a4, a5, a6⟩ := adv_J hw hw' tp j1 j2 j10
    rw [a1, a2, mj_bu_some, mj_bu_some, mj_bu_some]
    have h33_1 : g1 223 33 = 0 := (a6.2 33 (by omega)).trans h33
    have nj1 := NJ_F hP.1 a5 a6 nj
    have lj1 := LJ_F hP.1 a5 a6 lj
    obtain ⟨tp1, i1, i2, i3, i4, i5, i6, i7, i8, tk1, i9, i10, i11⟩ := id a3
    rw [R_clockHere hw f1 nj1.1 nj1.2.1, mj_bi_some, i3, i6, nj1.2.2.1]
    have efi : fi (g1 241) w1 c = fi (f1 (fr sw + 1)) w1 c := (fi_c w1 nj1.2.2.2).symm
    by_cases hn : k1 = 1 ∧ ¬ fi (f1 (fr sw + 1)) w1 c = -1
    rotate_left
    · have hs : ¬ (nmH g1 ∧ ¬ fi (g1 241) (g1 223 30) c = -1) := by
        unfold nmH
        rw [i7, i8, efi]
        exact fun z => hn ⟨(TK_1 tk1).2 z.1, z.2⟩
      obtain ⟨y, hy⟩ := M_seen_n hw' (r := 241) (m := c) (k_241 hw') nj1.1 (by omega) h33_1 hs
      refine ⟨cbad f1 1, mbad g1 1, 0, ?_, ?_, WC_t (WC_F a5) (WC_b _ _), WM_t (WM_F a6) (WM_b _ _), Or.inr ⟨rfl, BJ_b a3 1⟩⟩
      · have e : (if k1 = 1 then fi (f1 (fr sw + 1)) x1 c else -1) = -1 := by
          by_cases z : k1 = 1
          · rw [if_pos z, TK_1v tk1 z]
            exact Classical.byContradiction fun y => hn ⟨z, y⟩
          · rw [if_neg z]
        rw [e, if_neg (fun z => z rfl), R_fail hw, mj_bi_some, mj_gd_pos (by decide)]
      · rw [hy, mj_bi_some, if_pos (by rw [mbad_33]; decide), whens_61 hw' (mbad_33 _ _)]
    have hs : nmH g1 := by unfold nmH; rw [i7, i8]; exact (TK_1 tk1).1 hn.1
    have hs2 : ¬ fi (g1 241) (g1 223 30) c = -1 := by rw [i8, efi]; exact hn.2
    rw [if_pos hn.1, TK_1v tk1 hn.1, if_pos hn.2, M_seen_y hw' (r := 241) (m := c) (k_241 hw') nj1.1 (by omega) hs hs2, mj_bi_some, if_neg (fun z => z h33_1), i8, efi]
    obtain ⟨i, hi, ei⟩ : ∃ i : Nat, i < c ∧ fi (f1 (fr sw + 1)) w1 c = (i : Int) := by
      rcases fi_r (f1 (fr sw + 1)) w1 c with z | z
      · exact absurd z hn.2
      · exact z
    rw [ei]
    have hc := nj.1
    obtain ⟨f2, g2, p2, b2, k2, x2, t2, w2, c1, c2, c3, c4, c5, c6⟩ := adv_J hw hw' tp1 i1 i2 i10
    rw [c1, c2, mj_bu_some, mj_bu_some]
    have h33_2 : g2 223 33 = 0 := (c6.2 33 (by omega)).trans h33_1
    have nj2 := NJ_F hP.1 c5 c6 nj1
    have lj2 := LJ_F hP.1 c5 c6 lj1
    have ac : Fc f f2 := Fc_t a5 c5
    have am : Fm g g2 := Fm_t a6 c6
    obtain ⟨tp2, q1, q2, q3, q4, q5, q6, q7, q8, tk2, q9, q10, q11⟩ := id c3
    rw [q3, q6, l_M_whensHere_61 hw', q7]
    by_cases hr : k2 = 3
    rotate_left
    · refine ⟨cbad f2 1, mbad g2 1, 0, ?_, ?_, WC_t (WC_F ac) (WC_b _ _), WM_t (WM_F am) (WM_b _ _), Or.inr ⟨rfl, BJ_b c3 1⟩⟩
      · rw [if_neg hr, R_fail hw, mj_bi_some, mj_gd_pos (by decide)]
      · rw [if_pos (fun z => hr ((TK_3 tk2).2 z)), l_M_whensHere_75 hw', M_must_0 hw' h33_2, mj_bu_some, if_pos (by rw [mbad_33]; decide), whens_95 hw' (mbad_33 _ _)]
    obtain ⟨ex, er1, er2⟩ := TK_3v tk2 hr
    rw [if_pos hr, if_neg (fun z => z ((TK_3 tk2).1 hr)), l_M_whensHere_75 hw', M_must_1 hw' _ (by decide), mj_bu_some, if_neg (fun z => z h33_2), q8]
    obtain ⟨f3, g3, p3, b3, k3, x3, t3, w3, d1, d2, d3, d4, d5, d6⟩ := adv_J hw hw' tp2 q1 q2 q10
    rw [d1, d2, mj_bu_some, mj_bu_some]
    have h33_3 : g3 223 33 = 0 := (d6.2 33 (by omega)).trans h33_2
    have nj3 := NJ_F hP.1 d5 d6 nj2
    have lj3 := LJ_F hP.1 d5 d6 lj2
    have ac3 : Fc f f3 := Fc_t ac d5
    have am3 : Fm g g3 := Fm_t am d6
    obtain ⟨tp3, s1, s2, s3, s4, s5, s6, s7, s8, tk3, s9, s10, s11⟩ := id d3
    rw [l_M_whensHere_95 hw']
    by_cases hq : f3 3 5 = 2 ∧ f3 3 7 ≤ 50
    rotate_left
    · have ek : (g3 223 29 = 2) ↔ f3 3 5 = 2 := by rw [s7, s3]; exact (TK_2 tk3).symm
      have hq' : ¬ (g3 223 29 = 2 ∧ g3 223 30 ≤ 50) := by
        intro z
        have z1 := ek.1 z.1
        refine hq ⟨z1, ?_⟩
        rw [s3] at z1
        rw [s6]
        rw [s8] at z
        exact (TK_2v tk3 z1).1.2 z.2
      have e2 : (if g3 223 29 = 2 then (2 : Int) else 1) = if f3 3 5 = 2 then 2 else 1 := by
        by_cases z : f3 3 5 = 2
        · rw [if_pos z, if_pos (ek.2 z)]
        · rw [if_neg z, if_neg (fun y => z (ek.1 y))]
      obtain ⟨y, hy⟩ := M_number_n hw' h33_3 hq'
      rw [e2] at hy
      refine ⟨cbad f3 (if f3 3 5 = 2 then 2 else 1), mbad g3 (if f3 3 5 = 2 then 2 else 1), 0, ?_, ?_, WC_t (WC_F ac3) (WC_b _ _), WM_t (WM_F am3) (WM_b _ _), Or.inr ⟨rfl, BJ_b d3 _⟩⟩
      · rw [R_number_n hw hq, mj_bi_some, if_neg (fun z => z rfl)]
      · rw [hy, mj_bi_some, if_neg (by rw [mbad_33]; decide)]
    have hk3 : k3 = 2 := by rw [← s3]; exact hq.1
    have hx3 : x3 ≤ 50 := by rw [← s6]; exact hq.2
    obtain ⟨z1, z2⟩ := TK_2v tk3 hk3
    obtain ⟨z3, z4⟩ := z2 hx3
    rw [R_number_y hw hq.1 hq.2, mj_bi_some, if_pos (show ¬ (1 : Int) = 0 by decide), s6, M_number_y hw' h33_3 (s7.trans ((TK_2 tk3).1 hk3)) (by rw [s8]; exact z1.1 hx3), s8]
    rw [L_addRule hw (fr_pn sw) f3 hl hm (show i < 4 by omega) lj3.2.1, mj_bu_some]
    have tpA : TP (AR f3 (fr sw) l m i x2 x3) g3 T n := by
      obtain ⟨y1, y2, y3, y4, y5, y6⟩ := tp3
      refine ⟨y1, ?_, y3, fun q hq => ?_, y5, y6⟩
      · rw [AR_o (by omega)]; exact y2
      · rw [AR_o (by omega)]; exact y4 q hq
    obtain ⟨f4, g4, p4, b4, k4, x4, t4, w4, o1, o2, o3, o4, o5, o6⟩ := adv_J hw hw' tpA (by rw [AR_o (by omega)]; exact s1) s2 s10
    rw [o1, o2, mj_bu_some, mj_bu_some, mj_bi_some]
    have h33_4 : g4 223 33 = 0 := (o6.2 33 (by omega)).trans h33_3
    have e243 : g4 243 (l : Int).toNat = (m : Int) := by rw [Int.toNat_natCast, o6.1 243 (by omega)]; exact lj3.2.2.1
    rw [if_pos h33_4, e243, ixW hl hm]
    simp only [Int.toNat_natCast]
    rw [mj_gd_pos (by omega), mj_gd_pos (by omega), mj_gd_pos (by omega), mj_gd_pos (by omega), mj_gd_pos (by omega), mj_gd_pos (by omega)]
    have r3 : mj_u (mj_u (mj_u g4 244 (6 * l + m) (i : Int)) 245 (6 * l + m) w2) 246 (6 * l + m) w3 243 l = (m : Int) := by
      rw [u_o (by omega), u_o (by omega), u_o (by omega)]
      rw [Int.toNat_natCast] at e243
      exact e243
    rw [r3, wS (by omega)]
    have eAM : mj_u (mj_u (mj_u (mj_u g4 244 (6 * l + m) (i : Int)) 245 (6 * l + m) w2) 246 (6 * l + m) w3) 243 l ((m + 1 : Nat) : Int) = AM g4 l m (i : Int) w2 w3 := rfl
    rw [eAM]
    have tjn : TJ f4 (AM g4 l m (i : Int) w2 w3) T n p4 b4 k4 x4 t4 w4 := TJ_wr o3 rfl rfl (by funext q; exact AM_o (by omega)) (by funext q; exact AM_o (by omega))
    have njn : NJ f4 (AM g4 l m (i : Int) w2 w3) (fr sw) c := by
      obtain ⟨y1, y2, y3, y4⟩ := nj3
      refine ⟨y1, ?_, ?_, fun q hq => ?_⟩
      · rw [o5.1 _ (by omega), AR_o (by omega)]; exact y2
      · rw [AM_o (by omega), o6.2 36 (by omega)]; exact y3
      · rw [o5.1 _ (by omega), AR_o (by omega), AM_o (by omega), o6.1 241 (by omega)]; exact y4 q hq
    have ljn : LJ f4 (AM g4 l m (i : Int) w2 w3) (fr sw) c l (m + 1) := by
      obtain ⟨y1, y2, y3, y4⟩ := lj3
      refine ⟨by omega, ?_, ?_, fun q hq => ?_⟩
      · rw [o5.1 _ (by omega), AR_4, if_pos rfl]
      · rw [AM_3, if_pos rfl]
      · rw [o5.1 _ (by omega), o5.1 _ (by omega), o5.1 _ (by omega), AR_5, AR_6, AR_7, AM_4, AM_5, AM_6]
        by_cases z : q = m
        · rw [if_pos (by omega), if_pos (by omega), if_pos (by omega), if_pos (by omega), if_pos (by omega), if_pos (by omega)]
          exact ⟨⟨rfl, ex, z3⟩, ⟨by omega, by omega⟩, ⟨er1, er2⟩, z4, z1.1 hx3⟩
        · rw [if_neg (by omega), if_neg (by omega), if_neg (by omega), if_neg (by omega), if_neg (by omega), if_neg (by omega), o6.1 244 (by omega), o6.1 245 (by omega), o6.1 246 (by omega)]
          exact y4 q (by omega)
    have gun : GU f4 (fr sw) := by
      refine GU_c (f := AR f3 (fr sw) l m i x2 x3) (fun a h1 h2 => o5.1 _ (by omega)) (GU_AR hl hm lj3.2.1 (by omega) (GU_c (fun a h1 h2 => ac3.1 _ (by omega)) gu))
    obtain ⟨f', g', r, e1, e2, e3, e4, e5⟩ := ih (m + 1) f4 (AM g4 l m (i : Int) w2 w3) p4 b4 k4 x4 t4 w4 (.inl (i : Int)) (.inl x2) (.inl (i : Int)) (.inl w2) (.inl w3) (.inl ((6 * l + m : Nat) : Int)) (by omega) tjn (by rw [AM_o (by omega)]; exact h33_4) njn ljn gun
    refine ⟨f', g', r, e1, e2, WC_t (WC_F ac3) (WC_t (WC_A hm _ _ _) (WC_t (WC_F o5) e3)), WM_t (WM_F am3) (WM_t (WM_F o6) (WM_t (WM_A hm) e4)), ?_⟩
    rcases e5 with ⟨y1, y2, ⟨p', b', k', x', t', v', y3, y4⟩, y5, y6⟩ | y
    · refine Or.inl ⟨y1, ?_, ⟨p', b', k', x', t', v', y3, by omega⟩, y5, y6⟩
      refine okF_t (okF_F ac3 am3 h33) (okF_t (f' := f4) (g' := AM g4 l m (i : Int) w2 w3) ⟨?_, ?_, ?_, ?_, ?_⟩ y2)
      · rw [o5.2 8 (by omega), AR_o (by omega)]
      · rw [o5.2 9 (by omega), AR_o (by omega)]
      · rw [AM_o (by omega), o6.2 31 (by omega)]
      · rw [AM_o (by omega), o6.2 32 (by omega)]
      · rw [AM_o (by omega)]; exact h33_4
    · exact Or.inr y
end WB
