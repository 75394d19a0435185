/-! A line and its end; all lines; in both. -/
theorem PJ_F {P : Nat} (hP : 5 ≤ P ∧ P ≤ 18) {f f' g g' : mj_F} {c np ne st ln : Nat} {sd : Int} (a : Fc f f') (b : Fm g g') (pj : PJ P f g c np ne st ln sd) : PJ P f' g' c np ne st ln sd := by
  obtain ⟨nj, pb, pc, pd, qj⟩ := pj
  refine ⟨NJ_F hP.1 a b nj, pb, ?_, fun i hi => ?_, QJ_c (fun x h1 h2 => a.1 _ (by omega)) (fun x h1 h2 => b.1 _ (by omega)) (Nat.le_refl _) qj⟩
  · rw [a.1 P (by omega), b.2 41 (by omega), b.2 37 (by omega), b.2 38 (by omega), b.2 39 (by omega), b.2 40 (by omega)]
    exact pc
  · rw [a.1 _ (by omega), b.1 _ (by omega)]
    exact pd i hi
theorem PJ_ln {P : Nat} (hP : 5 ≤ P ∧ P ≤ 18) {f g : mj_F} {c np ne st ln : Nat} {sd : Int} (pj : PJ P f g c np ne st ln sd) : PJ P (mj_u f P 0 ((ln + 1 : Nat) : Int)) (mj_u g 223 41 ((ln + 1 : Nat) : Int)) c np ne st (ln + 1) sd := by
  obtain ⟨⟨n1, n2, n3, n4⟩, pb, ⟨m0, m1, m2, m3, m4, m5, m6, m7, m8, m9⟩, pd, qj⟩ := pj
  refine ⟨⟨n1, ?_, ?_, fun i hi => ?_⟩, pb, ⟨u_self, u_self, ?_, ?_, ?_, ?_, ?_, ?_, ?_, ?_⟩, fun i hi => ?_, QJ_c (fun a h1 h2 => by funext q; rw [u_o (by omega)]) (fun a h1 h2 => by funext q; rw [u_o (by omega)]) (Nat.le_refl _) qj⟩
  · rw [u_o (by omega)]; exact n2
  · rw [u_o (by omega)]; exact n3
  · rw [u_o (by omega), u_o (by omega)]; exact n4 i hi
  · rw [u_o (by omega)]; exact m2
  · rw [u_o (by omega)]; exact m3
  · rw [u_o (by omega)]; exact m4
  · rw [u_o (by omega)]; exact m5
  · rw [u_o (by omega)]; exact m6
  · rw [u_o (by omega)]; exact m7
  · rw [u_o (by omega)]; exact m8
  · rw [u_o (by omega)]; exact m9
  · rw [u_o (by omega), u_o (by omega)]; exact pd i hi
theorem PJ_41 {P : Nat} {f g : mj_F} {c np ne st ln : Nat} {sd : Int} (pj : PJ P f g c np ne st ln sd) : g 223 41 = (ln : Int) := pj.2.2.1.2.1
theorem BJ_41 {f g : mj_F} (h : BJ f g) (z : Int) : BJ f (mj_u g 223 41 z) := by
  obtain ⟨a, b, c⟩ := h
  refine ⟨?_, ?_, ?_⟩
  · rw [u_o (by omega)]; exact a
  · rw [u_o (by omega)]; exact b
  · rw [u_o (by omega)]; exact c
theorem MF_41 {g g' : mj_F} (h : MF g g') (z : Int) : MF g (mj_u g' 223 41 z) := fun a q h1 h2 => by
  rw [u_o (by omega)]
  exact h a q h1 h2
/-- the reference, behind a line's body -/
noncomputable def tlM (w' : mj_W) (x1 : Int) (M : Option mj_O) : Option mj_O := mj_bu M (fun f12 => if ¬ (f12 223 29) = 3 then mj_bu (mj_call yM_must w' f12 [.inr (.inl 223), .inl 0, .inl 1]) (fun f13 => if ¬ (f13 223 33) = 0 then mj_run yM_text w' (mj_u f13 223 41 (mj_w ((f13 223 41) + 1))) 84 [.inr (.inl 223), .inl x1] [] else mj_bu (mj_call yM_advance w' f13 [.inr (.inl 223)]) (fun f14 => mj_run yM_text w' (mj_u f14 223 41 (mj_w ((f14 223 41) + 1))) 84 [.inr (.inl 223), .inl x1] [])) else mj_bu (mj_call yM_must w' f12 [.inr (.inl 223), .inl 1, .inl 1]) (fun f15 => if ¬ (f15 223 33) = 0 then mj_run yM_text w' (mj_u f15 223 41 (mj_w ((f15 223 41) + 1))) 84 [.inr (.inl 223), .inl x1] [] else mj_bu (mj_call yM_advance w' f15 [.inr (.inl 223)]) (fun f16 => mj_run yM_text w' (mj_u f16 223 41 (mj_w ((f16 223 41) + 1))) 84 [.inr (.inl 223), .inl x1] [])))
/-- the class, behind a line's body -/
noncomputable def tlX (w : mj_W) (X : Option mj_O) : Option mj_O := mj_bi X (fun f1 v2 => if v2 = 0 then some (w, f1, some (.inl 0)) else mj_bi (mj_call yR_endLine w f1 [.inr (.inl 3)]) (fun f3 v4 => if v4 = 0 then some (w, f3, some (.inl 0)) else some (w, f3, some (.inl 1))))
/-- how a line ends, in both -/
def LE (P : Nat) (T : Nat → Int) (n b ln : Nat) (w w' : mj_W) (x1 : Int) (f g : mj_F) (X M : Option mj_O) : Prop :=
  ∃ (f' g' : mj_F) (r : Int), X = some (w, f', some (.inl r)) ∧ M = mj_run yM_text w' g' 84 [.inr (.inl 223), .inl x1] [] ∧ CF P f f' ∧ MF g g' ∧
    ((r = 1 ∧ okF f f' g g' ∧ (∃ (p' b' : Nat) (k' x' t' v' : Int), TJ f' g' T n p' b' k' x' t' v' ∧ b < b') ∧ f' P 0 = (ln : Int) ∧ ∃ (c np ne st : Nat) (sd : Int), PJ P (mj_u f' P 0 ((ln + 1 : Nat) : Int)) g' c np ne st (ln + 1) sd) ∨ (r = 0 ∧ BJ f' g'))
section LNS
variable {sw sw' : Bool} {w w' : mj_W}
theorem end_both (hw : wk sw w) (hw' : wk sw' w') (x1 : Int) {T : Nat → Int} {n b ln : Nat} {f g : mj_F} (hl : ln < 2000) {X M : Option mj_O} (lo : LO (fr sw) T n b ln w w' f g X M) : LE (fr sw) T n b ln w w' x1 f g (tlX w X) (tlM w' x1 M) := by
  have hP := fr5 sw
  obtain ⟨f1, g1, r, e1, e2, cf, mf, h⟩ := lo
  unfold tlX tlM
  rw [e1, e2, mj_bi_some, mj_bu_some]
  rcases h with ⟨hr, ok, ⟨p', b', k', x', t', v', tj, hb⟩, c, np, ne, st, sd, pj⟩ | ⟨hr, bj⟩
  rotate_left
  · have n0 : ¬ g1 223 33 = 0 := by have := bj.1; omega
    refine ⟨f1, mj_u g1 223 41 (mj_w (g1 223 41 + 1)), 0, ?_, ?_, cf, MF_41 mf _, Or.inr ⟨rfl, BJ_41 bj _⟩⟩
    · rw [if_pos hr]
    · by_cases z : g1 223 29 = 3
      · rw [if_neg (fun y => y z), M_must_b hw' bj.1, mj_bu_some, if_pos n0]
      · rw [if_pos z, M_must_b hw' bj.1, mj_bu_some, if_pos n0]
  obtain ⟨o1, o2, o3, o4, o5⟩ := id ok
  obtain ⟨tp, j1, j2, j3, j4, j5, j6, j7, j8, tk, j9, j10, j11⟩ := id tj
  have e41 := PJ_41 pj
  have e0 := pj.2.2.1.1
  rw [if_neg (show ¬ r = 0 by omega), c_R_endLine hw, j3, j7]
  by_cases h4 : k' = 4
  rotate_left
  · have h3 : ¬ t' = 3 := fun z => h4 ((TK_4 tk).2 z)
    refine ⟨cbad f1 1, mj_u (mbad g1 1) 223 41 (mj_w (mbad g1 1 223 41 + 1)), 0, ?_, ?_, CF_t cf (CF_b _ _), MF_41 (MF_t mf (MF_b _ _)) _, Or.inr ⟨rfl, BJ_41 (BJ_b tj 1) _⟩⟩
    · rw [if_neg h4, R_fail hw, mj_bi_some, mj_gd_pos (by decide), mj_bi_some, if_pos rfl]
    · rw [if_pos h3, M_must_0 hw' o5, mj_bu_some, if_pos (by rw [mbad_33]; decide)]
  have h3 : t' = 3 := (TK_4 tk).1 h4
  rw [if_pos h4, if_neg (fun y => y h3), M_must_1 hw' _ (by decide), mj_bu_some, if_neg (fun y => y o5)]
  obtain ⟨f2, g2, p2, b2, k2, x2, t2, w2, a1, a2, a3, a4, a5, a6⟩ := adv_J hw hw' tp j1 j2 j10
  have pj2 := PJ_F hP a5 a6 pj
  have e2' : g2 223 41 = (ln : Int) := PJ_41 pj2
  have e0' : f2 (fr sw) 0 = (ln : Int) := pj2.2.2.1.1
  rw [a1, a2, mj_bu_some, mj_bu_some, mj_bi_some, if_neg (show ¬ (1 : Int) = 0 by decide), e2', wS (by omega)]
  refine ⟨f2, mj_u g2 223 41 ((ln + 1 : Nat) : Int), 1, rfl, rfl, CF_t cf (CF_F a5), MF_41 (MF_t mf (MF_F a6)) _, Or.inl ⟨rfl, ⟨?_, ?_, ?_, ?_, ?_⟩, ⟨p2, b2, k2, x2, t2, w2, TJ_w2 a3 (fun _ _ _ => rfl) rfl (fun q h1 h2 => by rw [u_o (by omega)]) (by funext q; rw [u_o (by omega)]), by omega⟩, e0', c, np, ne, st, sd, PJ_ln hP pj2⟩⟩
  · rw [a5.2 8 (by omega)]; exact o1
  · rw [a5.2 9 (by omega)]; exact o2
  · rw [u_o (by omega), a6.2 31 (by omega)]; exact o3
  · rw [u_o (by omega), a6.2 32 (by omega)]; exact o4
  · rw [u_o (by omega), a6.2 33 (by omega)]; exact o5
theorem line_both (hw : wk sw w) (hw' : wk sw' w') (x1 : Int) {T : Nat → Int} {n p b c np ne st ln : Nat} {k x t v sd : Int} {f g : mj_F} (hl : ln < 2000) (tj : TJ f g T n p b k x t v) (hk : ¬ k = 0) (h33 : g 223 33 = 0) (pj : PJ (fr sw) f g c np ne st ln sd) : LE (fr sw) T n b ln w w' x1 f g (mj_call yR_readLine w f [.inr (.inl 3)]) (mj_run yM_text w' g 84 [.inr (.inl 223), .inl x1] []) := by
  obtain ⟨tp, j1, j2, j3, j4, j5, j6, j7, j8, tk, j9, j10, j11⟩ := id tj
  have ht : ¬ t = 0 := fun z => hk ((TK_0 tk).2 z)
  rw [l_M_text_84 hw', if_neg (show ¬ ¬ g 223 33 = 0 from fun y => y h33), j7, if_neg ht, c_R_readLine hw, j3]
  by_cases h5 : k = 5
  · rw [if_pos h5]
    exact end_both hw hw' x1 hl (clock_both hw hw' tj h5 h33 pj)
  rw [if_neg h5]
  by_cases h6 : k = 6
  · rw [if_pos h6]
    exact end_both hw hw' x1 hl (place_both hw hw' tj h6 h33 pj)
  rw [if_neg h6]
  by_cases h7 : k = 7
  · rw [if_pos h7]
    exact end_both hw hw' x1 hl (edge_both hw hw' tj h7 h33 pj)
  rw [if_neg h7]
  by_cases h8 : k = 8
  · rw [if_pos h8]
    exact end_both hw hw' x1 hl (start_both hw hw' tj h8 h33 pj)
  rw [if_neg h8, R_fail hw, mj_bi_some, mj_gd_pos (by decide)]
  have em : mj_call yM_lineHere w' g [.inr (.inl 223)] = some (w', mbad g 1, none) := by
    rw [c_M_lineHere hw', M_isWord hw' h33, mj_bi_some, j7, j8, if_neg (fun z => h5 ((TK_5 tk).2 z)), if_pos rfl, M_isWord hw' h33, mj_bi_some, j7, j8, if_neg (fun z => h6 ((TK_6 tk).2 z)), if_pos rfl, M_isWord hw' h33, mj_bi_some, j7, j8, if_neg (fun z => h7 ((TK_7 tk).2 z)), if_pos rfl, M_isWord hw' h33, mj_bi_some, j7, j8, if_neg (fun z => h8 ((TK_8 tk).2 z)), M_must_0 hw' h33, mj_bu_some, if_neg (by rw [mbad_33]; decide)]
  refine ⟨cbad f 1, mj_u (mbad g 1) 223 41 (mj_w (mbad g 1 223 41 + 1)), 0, rfl, ?_, CF_b _ _, MF_41 (MF_b _ _) _, Or.inr ⟨rfl, BJ_41 (BJ_b tj 1) _⟩⟩
  have n0 : ¬ mbad g 1 223 33 = 0 := by rw [mbad_33]; decide
  rw [em, mj_bu_some]
  by_cases z : mbad g 1 223 29 = 3
  · rw [if_neg (fun y => y z), M_must_b hw' (mbad_33 _ _), mj_bu_some, if_pos n0]
  · rw [if_pos z, M_must_b hw' (mbad_33 _ _), mj_bu_some, if_pos n0]
/-- how all lines end, in both -/
def TE (P : Nat) (w w' : mj_W) (f g : mj_F) (X M : Option mj_O) : Prop :=
  ∃ (f' g' : mj_F) (r : Int), X = some (w, f', some (.inl r)) ∧ CF P f f' ∧ MF g g' ∧
    ((r = 1 ∧ M = mj_bu (mj_call yM_becomes w' g' [.inr (.inl 223)]) (fun f7 => some (w', f7, some (.inl (f7 223 1)))) ∧ okF f f' g g' ∧ ∃ (c np ne st ln : Nat) (sd : Int), 0 < np ∧ PJ P f' g' c np ne st ln sd) ∨ (r = 0 ∧ M = some (w', g', some (.inl (-1))) ∧ BJ f' g'))
theorem M_text_b (hw' : wk sw' w') (x1 : Int) {g : mj_F} (h : g 223 33 = 1) : mj_run yM_text w' g 84 [.inr (.inl 223), .inl x1] [] = some (w', g, some (.inl (-1))) := by
  have n0 : ¬ g 223 33 = 0 := by omega
  rw [l_M_text_84 hw', if_pos n0]
  by_cases z : g 223 37 ≤ 0
  · rw [if_pos z, M_must_b hw' h, mj_bu_some, if_neg n0]
  · rw [if_neg z, M_must_b hw' h, mj_bu_some, if_neg n0]
theorem lines_both (hw : wk sw w) (hw' : wk sw' w') (x1 x2 : Int) {T : Nat → Int} {n : Nat} : ∀ (d p b c np ne st ln : Nat) (k x t v sd : Int) (f g : mj_F), n - b ≤ d → ln ≤ b → TJ f g T n p b k x t v → g 223 33 = 0 → PJ (fr sw) f g c np ne st ln sd → TE (fr sw) w w' f g (mj_run yR_readText w f 39 [.inr (.inl 3), .inl x1, .inl (ln : Int)] []) (mj_run yM_text w' g 84 [.inr (.inl 223), .inl x2] []) := by
  have hP := fr5 sw
  have stop : ∀ (p b c np ne st ln : Nat) (k x t v sd : Int) (f g : mj_F), k = 0 → TJ f g T n p b k x t v → g 223 33 = 0 → PJ (fr sw) f g c np ne st ln sd → TE (fr sw) w w' f g (mj_run yR_readText w f 39 [.inr (.inl 3), .inl x1, .inl (ln : Int)] []) (mj_run yM_text w' g 84 [.inr (.inl 223), .inl x2] []) := by
    intro p b c np ne st ln k x t v sd f g hk tj h33 pj
    obtain ⟨tp, j1, j2, j3, j4, j5, j6, j7, j8, tk, j9, j10, j11⟩ := id tj
    have ht : t = 0 := (TK_0 tk).1 hk
    have e2 : f (fr sw) 2 = (np : Int) := pj.2.2.1.2.2.1
    have e37 : g 223 37 = (np : Int) := pj.2.2.1.2.2.2.1
    have ex : mj_run yR_readText w f 39 [.inr (.inl 3), .inl x1, .inl (ln : Int)] [] = if (0 : Int) < (np : Int) then some (w, f, some (.inl 1)) else some (w, cbad f 4, some (.inl 0)) := by
      rw [l_R_readText_39 hw, e2, j3, if_pos hk, R_fail hw, mj_bi_some, if_pos rfl, ite_self]
    rw [l_M_text_84 hw', if_neg (show ¬ ¬ g 223 33 = 0 from fun y => y h33), j7, if_pos ht, e37, ex]
    by_cases h0 : (np : Int) ≤ 0
    · rw [if_neg (by omega), if_pos h0, M_must_0 hw' h33, mj_bu_some, if_neg (by rw [mbad_33]; decide)]
      exact ⟨_, _, 0, rfl, CF_b _ _, MF_b _ _, Or.inr ⟨rfl, rfl, BJ_b tj 4⟩⟩
    · rw [if_pos (by omega), if_neg h0, M_must_1 hw' _ (by decide), mj_bu_some, if_pos h33]
      exact ⟨_, _, 1, rfl, fun _ _ _ _ => rfl, fun _ _ _ _ => rfl, Or.inl ⟨rfl, rfl, ⟨rfl, rfl, rfl, rfl, h33⟩, c, np, ne, st, ln, sd, by omega, pj⟩⟩
  intro d
  induction d with
  | zero =>
    intro p b c np ne st ln k x t v sd f g hd hl tj h33 pj
    refine stop p b c np ne st ln k x t v sd f g ?_ tj h33 pj
    obtain ⟨tp, j1, j2, j3, j4, j5, j6, j7, j8, tk, j9, j10, j11⟩ := id tj
    refine Classical.byContradiction fun z => ?_
    have := j11 z
    omega
  | succ d ih =>
    intro p b c np ne st ln k x t v sd f g hd hl tj h33 pj
    by_cases hk : k = 0
    · exact stop p b c np ne st ln k x t v sd f g hk tj h33 pj
    obtain ⟨tp, j1, j2, j3, j4, j5, j6, j7, j8, tk, j9, j10, j11⟩ := id tj
    have hb := j11 hk
    have hn := tp.1
    obtain ⟨f1, g1, r, e1, e2, cf, mf, h⟩ := line_both hw hw' x2 (by omega : ln < 2000) tj hk h33 pj
    rw [e2, l_R_readText_39 hw, tp.2.1, if_neg (show ¬ (n : Int) ≤ (ln : Int) by omega), j3, if_neg hk, e1, mj_bi_some]
    rcases h with ⟨hr, ok, ⟨p', b', k', x', t', v', tj', hb'⟩, e0, c', np', ne', st', sd', pj'⟩ | ⟨hr, bj⟩
    rotate_left
    · rw [if_neg (fun y => y hr), M_text_b hw' x2 bj.1]
      exact ⟨_, _, 0, rfl, cf, mf, Or.inr ⟨rfl, rfl, bj⟩⟩
    rw [if_pos (show ¬ r = 0 by omega), e0, wS (by omega)]
    have tj2 : TJ (mj_u f1 (fr sw) 0 ((ln + 1 : Nat) : Int)) g1 T n p' b' k' x' t' v' := TJ_w2 tj' (fun q h1 h2 => by rw [u_o (by omega)]) (by funext q; rw [u_o (by omega)]) (fun _ _ _ => rfl) rfl
    obtain ⟨f2, g2, r2, i1, i2, i3, i4⟩ := ih p' b' c' np' ne' st' (ln + 1) k' x' t' v' sd' (mj_u f1 (fr sw) 0 ((ln + 1 : Nat) : Int)) g1 (by omega) (by omega) tj2 ok.2.2.2.2 pj'
    have cf2 : CF (fr sw) f f2 := fun a q h1 h2 => by
      rw [i2 a q h1 h2, u_o (by omega)]
      exact cf a q h1 h2
    refine ⟨f2, g2, r2, i1, cf2, MF_t mf i3, ?_⟩
    rcases i4 with ⟨z1, z2, z3, z4⟩ | z
    · refine Or.inl ⟨z1, z2, ⟨?_, ?_, ?_, ?_, z3.2.2.2.2⟩, z4⟩
      · rw [z3.1, u_o (by omega)]; exact ok.1
      · rw [z3.2.1, u_o (by omega)]; exact ok.2.1
      · rw [z3.2.2.1]; exact ok.2.2.1
      · rw [z3.2.2.2.1]; exact ok.2.2.2.1
    · exact Or.inr z
end LNS
