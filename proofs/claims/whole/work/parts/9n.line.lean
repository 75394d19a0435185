/-! A plan being read, in both; a clock's line, the start's line. -/
section FRE
variable {sw' : Bool} {w' : mj_W} {r nr m : Nat} {g : mj_F}
theorem M_fresh_y (hw' : wk sw' w') (hr : w'.1 r = (100, nr)) (hm : m ≤ nr) (hn : nr ≤ 1000) (h0 : g 223 33 = 0) (h : nmH g) (hf : fi (g r) (g 223 30) m = -1) : mj_call yM_freshHere w' g [.inr (.inl 223), .inr (.inl r), .inl (m : Int)] = mj_bu (mj_call yM_advance w' g [.inr (.inl 223)]) (fun f => some (w', f, some (.inl (g 223 30)))) := by
  have h' : g 223 29 = 1 ∧ kwK (g 223 30) = 1 := h
  rw [c_M_freshHere hw' _ _ _ _ hr, M_isName hw', mj_bi_some, if_pos h', M_must_1 hw' g (by decide), mj_bu_some, M_at hw' g hr hm hn, mj_bi_some, if_neg (fun z => z hf), M_must_1 hw' g (by decide), mj_bu_some, if_neg (fun z => z h0)]
theorem M_fresh_1 (hw' : wk sw' w') (hr : w'.1 r = (100, nr)) (hm : m ≤ nr) (hn : nr ≤ 1000) (h0 : g 223 33 = 0) (h : ¬ nmH g) : ∃ v : Int, mj_call yM_freshHere w' g [.inr (.inl 223), .inr (.inl r), .inl (m : Int)] = some (w', mbad g 1, some (.inl v)) := by
  have h' : ¬ (g 223 29 = 1 ∧ kwK (g 223 30) = 1) := h
  refine ⟨mbad g 1 223 30, ?_⟩
  rw [c_M_freshHere hw' _ _ _ _ hr, M_isName hw', mj_bi_some, if_neg h', M_must_0 hw' h0, mj_bu_some, M_at hw' _ hr hm hn, mj_bi_some]
  by_cases z : fi (mbad g 1 r) (mbad g 1 223 30) m = -1
  · rw [if_neg (fun y => y z), M_must_b hw' (mbad_33 _ _), mj_bu_some, if_pos (by rw [mbad_33]; decide)]
  · rw [if_pos z, M_must_b hw' (mbad_33 _ _), mj_bu_some, if_pos (by rw [mbad_33]; decide)]
theorem M_fresh_3 (hw' : wk sw' w') (hr : w'.1 r = (100, nr)) (hm : m ≤ nr) (hn : nr ≤ 1000) (h0 : g 223 33 = 0) (h : nmH g) (hf : ¬ fi (g r) (g 223 30) m = -1) : ∃ v : Int, mj_call yM_freshHere w' g [.inr (.inl 223), .inr (.inl r), .inl (m : Int)] = some (w', mbad g 3, some (.inl v)) := by
  have h' : g 223 29 = 1 ∧ kwK (g 223 30) = 1 := h
  refine ⟨mbad g 3 223 30, ?_⟩
  rw [c_M_freshHere hw' _ _ _ _ hr, M_isName hw', mj_bi_some, if_pos h', M_must_1 hw' g (by decide), mj_bu_some, M_at hw' g hr hm hn, mj_bi_some, if_pos hf, M_must_0 hw' h0, mj_bu_some, if_pos (by rw [mbad_33]; decide)]
theorem M_fresh_b (hw' : wk sw' w') (hr : w'.1 r = (100, nr)) (hm : m ≤ nr) (hn : nr ≤ 1000) (h0 : g 223 33 = 1) : ∃ v : Int, mj_call yM_freshHere w' g [.inr (.inl 223), .inr (.inl r), .inl (m : Int)] = some (w', g, some (.inl v)) := by
  have n0 : ¬ g 223 33 = 0 := by omega
  refine ⟨g 223 30, ?_⟩
  rw [c_M_freshHere hw' _ _ _ _ hr, M_isName hw', mj_bi_some, M_must_b hw' h0, mj_bu_some, M_at hw' _ hr hm hn, mj_bi_some]
  by_cases z : fi (g r) (g 223 30) m = -1
  · rw [if_neg (fun y => y z), M_must_b hw' h0, mj_bu_some, if_pos n0]
  · rw [if_pos z, M_must_b hw' h0, mj_bu_some, if_pos n0]
end FRE
/-- the lists and the edges -/
def QJ (P : Nat) (f g : mj_F) (c np ne : Nat) : Prop :=
  (∀ l, l < np → ∃ m, LJ f g P c l m) ∧
  (∀ e, e < ne → (∃ m, LJ f g P c (8 + e) m) ∧ (∃ m, ZJ f g P c e m) ∧ ∃ a b : Nat, a < np ∧ b < np ∧ f (P + 8) e = (a : Int) ∧ g 247 e = (a : Int) ∧ f (P + 9) e = (b : Int) ∧ g 248 e = (b : Int)) ∧
  (∀ l, np ≤ l → l < 8 → f (P + 4) l = 0) ∧ (∀ e, ne ≤ e → e < 16 → f (P + 4) (8 + e) = 0 ∧ f (P + 10) e = 0) ∧ GU f P
theorem LJ_m {f g : mj_F} {P c c' l m : Nat} (h : c ≤ c') (a : LJ f g P c l m) : LJ f g P c' l m := ⟨a.1, a.2.1, a.2.2.1, fun k hk => ⟨(a.2.2.2 k hk).1, ⟨(a.2.2.2 k hk).2.1.1, by have := (a.2.2.2 k hk).2.1.2; omega⟩, (a.2.2.2 k hk).2.2⟩⟩
theorem ZJ_m {f g : mj_F} {P c c' l m : Nat} (h : c ≤ c') (a : ZJ f g P c l m) : ZJ f g P c' l m := ⟨a.1, a.2.1, a.2.2.1, fun k hk => ⟨(a.2.2.2.1 k hk).1, ⟨(a.2.2.2.1 k hk).2.1.1, by have := (a.2.2.2.1 k hk).2.1.2; omega⟩, (a.2.2.2.1 k hk).2.2⟩, a.2.2.2.2⟩
theorem QJ_c {P : Nat} {f f' g g' : mj_F} {c c' np ne : Nat} (h : ∀ a, 3 ≤ a → a ≤ 12 → f' (P + a) = f (P + a)) (hg : ∀ a, 243 ≤ a → a ≤ 251 → g' a = g a) (hc : c ≤ c') (q : QJ P f g c np ne) : QJ P f' g' c' np ne := by
  obtain ⟨q1, q2, q3, q4, q5⟩ := q
  have lj : ∀ l m, LJ f g P c l m → LJ f' g' P c' l m := fun l m a => by
    have a' := LJ_m hc a
    unfold LJ at a' ⊢
    rw [h 4 (by omega) (by omega), h 5 (by omega) (by omega), h 6 (by omega) (by omega), h 7 (by omega) (by omega), hg 243 (by omega) (by omega), hg 244 (by omega) (by omega), hg 245 (by omega) (by omega), hg 246 (by omega) (by omega)]
    exact a'
  have zj : ∀ l m, ZJ f g P c l m → ZJ f' g' P c' l m := fun l m a => by
    have a' := ZJ_m hc a
    unfold ZJ at a' ⊢
    rw [h 10 (by omega) (by omega), h 11 (by omega) (by omega), h 12 (by omega) (by omega), hg 249 (by omega) (by omega), hg 250 (by omega) (by omega), hg 251 (by omega) (by omega)]
    exact a'
  refine ⟨fun l hl => ?_, fun e he => ?_, ?_, ?_, GU_c h q5⟩
  · obtain ⟨m, a⟩ := q1 l hl
    exact ⟨m, lj l m a⟩
  · obtain ⟨⟨m, a⟩, ⟨m', b⟩, d⟩ := q2 e he
    refine ⟨⟨m, lj _ m a⟩, ⟨m', zj _ m' b⟩, ?_⟩
    rw [h 8 (by omega) (by omega), h 9 (by omega) (by omega), hg 247 (by omega) (by omega), hg 248 (by omega) (by omega)]
    exact d
  · rw [h 4 (by omega) (by omega)]; exact q3
  · rw [h 4 (by omega) (by omega), h 10 (by omega) (by omega)]; exact q4
/-- the plan being read, between lines -/
def PJ (P : Nat) (f g : mj_F) (c np ne st ln : Nat) (sd : Int) : Prop :=
  NJ f g P c ∧ (np ≤ 8 ∧ ne ≤ 16 ∧ (st = 0 ∨ st < np) ∧ (sd = 0 ∨ sd = 1)) ∧
  (f P 0 = (ln : Int) ∧ g 223 41 = (ln : Int) ∧ f P 2 = (np : Int) ∧ g 223 37 = (np : Int) ∧ f P 3 = (ne : Int) ∧ g 223 38 = (ne : Int) ∧ f P 4 = (st : Int) ∧ g 223 39 = (st : Int) ∧ f P 5 = sd ∧ g 223 40 = sd) ∧
  (∀ i, i < np → f (P + 2) i = g 242 i) ∧ QJ P f g c np ne
def CF (P : Nat) (f f' : mj_F) : Prop := ∀ a q, ¬ (a = 3 ∧ 4 ≤ q ∧ q ≤ 9) → ¬ (P ≤ a ∧ a ≤ P + 12) → f' a q = f a q
def MF (g g' : mj_F) : Prop := ∀ a q, ¬ (a = 223 ∧ (27 ≤ q ∧ q ≤ 33 ∨ 36 ≤ q ∧ q ≤ 41)) → ¬ (241 ≤ a ∧ a ≤ 251) → g' a q = g a q
theorem CF_t {P : Nat} {f f' f'' : mj_F} (a : CF P f f') (b : CF P f' f'') : CF P f f'' := fun x q h1 h2 => (b x q h1 h2).trans (a x q h1 h2)
theorem MF_t {f f' f'' : mj_F} (a : MF f f') (b : MF f' f'') : MF f f'' := fun x q h1 h2 => (b x q h1 h2).trans (a x q h1 h2)
theorem CF_F {P : Nat} {f f' : mj_F} (a : Fc f f') : CF P f f' := fun x q h1 _ => by
  by_cases h : x = 3
  · subst h; exact a.2 q (by omega)
  · rw [a.1 x h]
theorem MF_F {f f' : mj_F} (a : Fm f f') : MF f f' := fun x q h1 _ => by
  by_cases h : x = 223
  · subst h; exact a.2 q (by omega)
  · rw [a.1 x h]
theorem CF_b {P : Nat} (f : mj_F) (k : Int) : CF P f (cbad f k) := fun x q h1 _ => cbad_o f k (by omega)
theorem MF_b (f : mj_F) (k : Int) : MF f (mbad f k) := fun x q h1 _ => mbad_o f k (by omega)
theorem CF_W {P l : Nat} {f f' : mj_F} (a : WC P l f f') : CF P f f' := fun x q h1 h2 => a x q h1 (by omega) (by omega) (by omega)
theorem MF_W {l : Nat} {f f' : mj_F} (a : WM l f f') : MF f f' := fun x q h1 h2 => a x q (by omega) (by omega) (by omega)
theorem CF_S {P l : Nat} {f f' : mj_F} (a : SC P l f f') : CF P f f' := fun x q h1 h2 => a x q h1 (by omega) (by omega) (by omega)
theorem MF_S {l : Nat} {f f' : mj_F} (a : SM l f f') : MF f f' := fun x q h1 h2 => a x q (by omega) (by omega) (by omega)
/-- how a line's body ends, in both -/
def LO (P : Nat) (T : Nat → Int) (n b ln : Nat) (w w' : mj_W) (f g : mj_F) (X M : Option mj_O) : Prop :=
  ∃ (f' g' : mj_F) (r : Int), X = some (w, f', some (.inl r)) ∧ M = some (w', g', none) ∧ CF P f f' ∧ MF g g' ∧
    ((r = 1 ∧ okF f f' g g' ∧ (∃ (p' b' : Nat) (k' x' t' v' : Int), TJ f' g' T n p' b' k' x' t' v' ∧ b < b') ∧ ∃ (c np ne st : Nat) (sd : Int), PJ P f' g' c np ne st ln sd) ∨ (r = 0 ∧ BJ f' g'))
theorem TJ_w2 {f g f' g' : mj_F} {T : Nat → Int} {n p b : Nat} {k x t v : Int} (h : TJ f g T n p b k x t v) (h3 : ∀ q, 3 ≤ q → q ≤ 7 → f' 3 q = f 3 q) (h4 : f' 4 = f 4) (h5 : ∀ q, 26 ≤ q → q ≤ 30 → g' 223 q = g 223 q) (h6 : g' 240 = g 240) : TJ f' g' T n p b k x t v := by
  unfold TJ TP at h ⊢
  rw [h3 3 (by omega) (by omega), h3 4 (by omega) (by omega), h3 5 (by omega) (by omega), h3 6 (by omega) (by omega), h3 7 (by omega) (by omega), h4, h5 26 (by omega) (by omega), h5 27 (by omega) (by omega), h5 28 (by omega) (by omega), h5 29 (by omega) (by omega), h5 30 (by omega) (by omega), h6]
  exact h
section LN
variable {sw sw' : Bool} {w w' : mj_W}
theorem clock_both (hw : wk sw w) (hw' : wk sw' w') {T : Nat → Int} {n p b c np ne st ln : Nat} {k x t v sd : Int} {f g : mj_F} (tj : TJ f g T n p b k x t v) (hk : k = 5) (h33 : g 223 33 = 0) (pj : PJ (fr sw) f g c np ne st ln sd) : LO (fr sw) T n b ln w w' f g (mj_call yR_readClock w f [.inr (.inl 3)]) (mj_call yM_lineHere w' g [.inr (.inl 223)]) := by
  have hP := fr5 sw
  obtain ⟨nj, pb, pc, pd, qj⟩ := pj
  obtain ⟨tp, j1, j2, j3, j4, j5, j6, j7, j8, tk, j9, j10, j11⟩ := id tj
  have hk' := (TK_5 tk).1 hk
  rw [c_R_readClock hw, c_M_lineHere hw', M_isWord hw' h33, mj_bi_some, j7, j8, if_pos hk', if_neg (show ¬ (1 : Int) = 0 by decide), nj.2.1, nj.2.2.1]
  have hc := nj.1
  have hb : b < p := j11 (by omega)
  by_cases h4 : (c : Int) < 4
  rotate_left
  · refine ⟨cbad f 2, mbad g 2, 0, ?_, ?_, CF_b _ _, MF_b _ _, Or.inr ⟨rfl, BJ_b tj 2⟩⟩
    · rw [if_neg h4, R_fail hw, mj_bi_some, mj_gd_pos (by decide)]
    · rw [if_pos (show (4 : Int) ≤ (c : Int) by omega), l_M_lineHere_23 hw', M_opens_n hw' h33, mj_bu_some]
      have e36 : mbad g 2 223 36 = (c : Int) := by rw [mbad_o _ _ (by omega)]; exact nj.2.2.1
      obtain ⟨y, hy⟩ := M_fresh_b hw' (r := 241) (m := c) (g := mbad g 2) (k_241 hw') nj.1 (by omega) (mbad_33 _ _)
      rw [e36, hy, mj_bi_some, if_neg (by rw [mbad_33]; decide)]
  rw [if_pos h4, if_neg (show ¬ (4 : Int) ≤ (c : Int) by omega), l_M_lineHere_23 hw', M_opens_y hw' h33 (by decide)]
  obtain ⟨f1, g1, p1, b1, k1, x1, t1, w1, a1, a2, a3, a4, a5, a6⟩ := adv_J hw hw' tp j1 j2 j10
  rw [a1, a2, mj_bu_some, mj_bu_some, mj_bu_some]
  have h33_1 : g1 223 33 = 0 := (a6.2 33 (by omega)).trans h33
  have nj1 := NJ_F hP.1 a5 a6 nj
  obtain ⟨tp1, i1, i2, i3, i4, i5, i6, i7, i8, tk1, i9, i10, i11⟩ := id a3
  have efi : fi (g1 241) w1 c = fi (f1 (fr sw + 1)) w1 c := (fi_c w1 nj1.2.2.2).symm
  have e36 : g1 223 36 = (c : Int) := nj1.2.2.1
  rw [i3, e36]
  by_cases hn : k1 = 1
  rotate_left
  · have hs : ¬ nmH g1 := by unfold nmH; rw [i7, i8]; exact fun z => hn ((TK_1 tk1).2 z)
    obtain ⟨y, hy⟩ := M_fresh_1 hw' (r := 241) (m := c) (k_241 hw') nj1.1 (by omega) h33_1 hs
    refine ⟨cbad f1 1, mbad g1 1, 0, ?_, ?_, CF_t (CF_F a5) (CF_b _ _), MF_t (MF_F a6) (MF_b _ _), Or.inr ⟨rfl, BJ_b a3 1⟩⟩
    · rw [if_neg hn, R_fail hw, mj_bi_some, mj_gd_pos (by decide)]
    · rw [hy, mj_bi_some, if_neg (by rw [mbad_33]; decide)]
  have hs : nmH g1 := by unfold nmH; rw [i7, i8]; exact (TK_1 tk1).1 hn
  have ex : x1 = w1 := TK_1v tk1 hn
  rw [if_pos hn, c_L_clockNamed hw _ _ _ (fr_pn sw), nj1.2.1, L_indexIn hw f1 (pn_k6 (fr_pn sw) hw) nj1.1 (by omega), mj_bi_some, mj_bi_some, i6, ex]
  by_cases hf : fi (f1 (fr sw + 1)) w1 c = -1
  rotate_left
  · obtain ⟨y, hy⟩ := M_fresh_3 hw' (r := 241) (m := c) (k_241 hw') nj1.1 (by omega) h33_1 hs (by rw [i8, efi]; exact hf)
    refine ⟨cbad f1 3, mbad g1 3, 0, ?_, ?_, CF_t (CF_F a5) (CF_b _ _), MF_t (MF_F a6) (MF_b _ _), Or.inr ⟨rfl, BJ_b a3 3⟩⟩
    · rw [if_neg hf, R_fail hw, mj_bi_some, mj_gd_pos (by decide)]
    · rw [hy, mj_bi_some, if_neg (by rw [mbad_33]; decide)]
  rw [if_pos hf, nj1.2.1, mj_gd_pos (by omega), Int.toNat_natCast, M_fresh_y hw' (r := 241) (m := c) (k_241 hw') nj1.1 (by omega) h33_1 hs (by rw [i8, efi]; exact hf), u_o (show (fr sw) ≠ (fr sw) + 1 ∨ 1 ≠ c by omega), nj1.2.1, wS (by omega), i8]
  have tpA : TP (mj_u (mj_u f1 (fr sw + 1) c w1) (fr sw) 1 ((c + 1 : Nat) : Int)) g1 T n := by
    obtain ⟨y1, y2, y3, y4, y5, y6⟩ := tp1
    refine ⟨y1, ?_, y3, fun q hq => ?_, y5, y6⟩
    · rw [u_o (by omega), u_o (by omega)]; exact y2
    · rw [u_o (by omega), u_o (by omega)]; exact y4 q hq
  obtain ⟨f4, g4, p4, b4, k4, x4, t4, w4, o1, o2, o3, o4, o5, o6⟩ := adv_J hw hw' tpA (by rw [u_o (by omega), u_o (by omega)]; exact i1) i2 i10
  rw [o1, o2, mj_bu_some, mj_bu_some, mj_bi_some]
  have h33_4 : g4 223 33 = 0 := (o6.2 33 (by omega)).trans h33_1
  have e4 : g4 223 36 = (c : Int) := (o6.2 36 (by omega)).trans e36
  rw [if_pos h33_4, e4, mj_gd_pos (by omega), Int.toNat_natCast, u_o (show (223 : Nat) ≠ 241 ∨ 36 ≠ c by omega), e4, wS (by omega), l_M_lineHere_312 hw']
  have fo : ∀ a q, a ≠ 3 → ¬ (a = fr sw ∧ q = 1) → ¬ (a = fr sw + 1 ∧ q = c) → f4 a q = f a q := fun a q h1 h2 h3 => by
    rw [o5.1 a h1, u_o (by omega), u_o (by omega), a5.1 a h1]
  have go : ∀ a q, ¬ (a = 223 ∧ (27 ≤ q ∧ q ≤ 30 ∨ q = 36)) → ¬ (a = 241 ∧ q = c) → mj_u (mj_u g4 241 c w1) 223 36 ((c + 1 : Nat) : Int) a q = g a q := fun a q h1 h2 => by
    rw [u_o (by omega), u_o (by omega)]
    by_cases z : a = 223
    · subst z; rw [o6.2 q (by omega), a6.2 q (by omega)]
    · rw [o6.1 a z, a6.1 a z]
  refine ⟨_, _, 1, rfl, rfl, ?_, ?_, Or.inl ⟨rfl, ⟨?_, ?_, ?_, ?_, ?_⟩, ⟨p4, b4, k4, x4, t4, w4, TJ_w2 o3 (fun _ _ _ => rfl) rfl (fun q h1 h2 => by rw [u_o (by omega), u_o (by omega)]) (by funext q; rw [u_o (by omega), u_o (by omega)]), by omega⟩, c + 1, np, ne, st, sd, ?_⟩⟩
  · intro a q h1 h2
    by_cases z : a = 3
    · subst z
      rw [o5.2 q (by omega), u_o (by omega), u_o (by omega), a5.2 q (by omega)]
    · exact fo a q z (by omega) (by omega)
  · intro a q h1 h2
    exact go a q (by omega) (by omega)
  · rw [o5.2 8 (by omega), u_o (by omega), u_o (by omega), a5.2 8 (by omega)]
  · rw [o5.2 9 (by omega), u_o (by omega), u_o (by omega), a5.2 9 (by omega)]
  · exact go 223 31 (by omega) (by omega)
  · exact go 223 32 (by omega) (by omega)
  · rw [go 223 33 (by omega) (by omega)]; exact h33
  · obtain ⟨n1, n2, n3, n4⟩ := nj
    obtain ⟨m0, m1, m2, m3, m4, m5, m6, m7, m8, m9⟩ := pc
    refine ⟨⟨by omega, ?_, u_self, fun i hi => ?_⟩, pb, ⟨?_, ?_, ?_, ?_, ?_, ?_, ?_, ?_, ?_, ?_⟩, fun i hi => ?_, QJ_c (fun a h1 h2 => by funext q; exact fo _ _ (by omega) (by omega) (by omega)) (fun a h1 h2 => by funext q; exact go _ _ (by omega) (by omega)) (by omega) qj⟩
    · rw [o5.1 _ (by omega), u_self]
    · by_cases z : i = c
      · subst z
        rw [o5.1 _ (by omega), u_o (by omega), u_self, u_o (by omega), u_self]
      · rw [fo _ _ (by omega) (by omega) (by omega), go _ _ (by omega) (by omega)]
        exact n4 i (by omega)
    · rw [fo _ _ (by omega) (by omega) (by omega)]; exact m0
    · rw [go _ _ (by omega) (by omega)]; exact m1
    · rw [fo _ _ (by omega) (by omega) (by omega)]; exact m2
    · rw [go _ _ (by omega) (by omega)]; exact m3
    · rw [fo _ _ (by omega) (by omega) (by omega)]; exact m4
    · rw [go _ _ (by omega) (by omega)]; exact m5
    · rw [fo _ _ (by omega) (by omega) (by omega)]; exact m6
    · rw [go _ _ (by omega) (by omega)]; exact m7
    · rw [fo _ _ (by omega) (by omega) (by omega)]; exact m8
    · rw [go _ _ (by omega) (by omega)]; exact m9
    · rw [fo _ _ (by omega) (by omega) (by omega), go _ _ (by omega) (by omega)]
      exact pd i hi
/-- one that is told, a place, passed over -/
theorem place_here (hw : wk sw w) (hw' : wk sw' w') {T : Nat → Int} {n p b np : Nat} {k x t v : Int} {f g : mj_F} (tj : TJ f g T n p b k x t v) (h33 : g 223 33 = 0) (hnp : np ≤ 8) (e2 : f (fr sw) 2 = (np : Int)) (e37 : g 223 37 = (np : Int)) (en : ∀ i, i < np → f (fr sw + 2) i = g 242 i) :
    (∃ i : Nat, i < np ∧ mj_call yR_placeHere w f [.inr (.inl 3)] = some (w, f, some (.inl (i : Int))) ∧ mj_call yM_placeHere w' g [.inr (.inl 223)] = mj_bu (mj_call yM_advance w' g [.inr (.inl 223)]) (fun f3 => some (w', f3, some (.inl (i : Int))))) ∨
    (mj_call yR_placeHere w f [.inr (.inl 3)] = some (w, f, some (.inl (-1))) ∧ ∃ y : Int, mj_call yM_placeHere w' g [.inr (.inl 223)] = some (w', mbad g 1, some (.inl y))) := by
  obtain ⟨tp, j1, j2, j3, j4, j5, j6, j7, j8, tk, j9, j10, j11⟩ := id tj
  have efi : fi (g 242) v np = fi (f (fr sw + 2)) v np := (fi_c v en).symm
  rw [R_placeHere hw f hnp e2, c_M_placeHere hw', e37, j3, j6]
  by_cases hn : k = 1 ∧ ¬ fi (f (fr sw + 2)) v np = -1
  · left
    obtain ⟨i, hi, ei⟩ : ∃ i : Nat, i < np ∧ fi (f (fr sw + 2)) v np = (i : Int) := by
      rcases fi_r (f (fr sw + 2)) v np with z | z
      · exact absurd z hn.2
      · exact z
    have hs : nmH g := by unfold nmH; rw [j7, j8]; exact (TK_1 tk).1 hn.1
    have hs2 : ¬ fi (g 242) (g 223 30) np = -1 := by rw [j8, efi]; exact hn.2
    refine ⟨i, hi, ?_, ?_⟩
    · rw [if_pos hn.1, TK_1v tk hn.1, ei]
    · rw [M_seen_y hw' (r := 242) (m := np) (k_242 hw') hnp (by omega) hs hs2, mj_bi_some, if_neg (fun z => z h33), j8, efi, ei]
  · right
    have hs : ¬ (nmH g ∧ ¬ fi (g 242) (g 223 30) np = -1) := by
      unfold nmH
      rw [j7, j8, efi]
      exact fun z => hn ⟨(TK_1 tk).2 z.1, z.2⟩
    obtain ⟨y, hy⟩ := M_seen_n hw' (r := 242) (m := np) (k_242 hw') hnp (by omega) h33 hs
    refine ⟨?_, y, ?_⟩
    · have e : (if k = 1 then fi (f (fr sw + 2)) x np else -1) = -1 := by
        by_cases z : k = 1
        · rw [if_pos z, TK_1v tk z]
          exact Classical.byContradiction fun y => hn ⟨z, y⟩
        · rw [if_neg z]
      rw [e]
    · rw [hy, mj_bi_some, if_pos (by rw [mbad_33]; decide)]
end LN
