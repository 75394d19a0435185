/-! The start's line, a place's line, in both. -/
theorem LJ_p {f f' g g' : mj_F} {P c l m : Nat} (h : ∀ a q, 4 ≤ a → a ≤ 7 → (a = 4 → q = l) → (5 ≤ a → 6 * l ≤ q ∧ q < 6 * l + 6) → f' (P + a) q = f (P + a) q) (hg : ∀ a q, 243 ≤ a → a ≤ 246 → (a = 243 → q = l) → (244 ≤ a → 6 * l ≤ q ∧ q < 6 * l + 6) → g' a q = g a q) (j : LJ f g P c l m) : LJ f' g' P c l m := by
  obtain ⟨j1, j2, j3, j4⟩ := j
  refine ⟨j1, ?_, ?_, fun k hk => ?_⟩
  · rw [h 4 l (by omega) (by omega) (by omega) (by omega)]; exact j2
  · rw [hg 243 l (by omega) (by omega) (by omega) (by omega)]; exact j3
  · rw [h 5 _ (by omega) (by omega) (by omega) (by omega), h 6 _ (by omega) (by omega) (by omega) (by omega), h 7 _ (by omega) (by omega) (by omega) (by omega), hg 244 _ (by omega) (by omega) (by omega) (by omega), hg 245 _ (by omega) (by omega) (by omega) (by omega), hg 246 _ (by omega) (by omega) (by omega) (by omega)]
    exact j4 k hk
theorem ZJ_p {f f' g g' : mj_F} {P c l m : Nat} (h : ∀ a q, 10 ≤ a → a ≤ 12 → (a = 10 → q = l) → (11 ≤ a → 4 * l ≤ q ∧ q < 4 * l + 4) → f' (P + a) q = f (P + a) q) (hg : ∀ a q, 249 ≤ a → a ≤ 251 → (a = 249 → q = l) → (250 ≤ a → 4 * l ≤ q ∧ q < 4 * l + 4) → g' a q = g a q) (j : ZJ f g P c l m) : ZJ f' g' P c l m := by
  obtain ⟨j1, j2, j3, j4, j5⟩ := j
  refine ⟨j1, ?_, ?_, fun k hk => ?_, fun k k' hk hk' => ?_⟩
  · rw [h 10 l (by omega) (by omega) (by omega) (by omega)]; exact j2
  · rw [hg 249 l (by omega) (by omega) (by omega) (by omega)]; exact j3
  · rw [h 11 _ (by omega) (by omega) (by omega) (by omega), h 12 _ (by omega) (by omega) (by omega) (by omega), hg 250 _ (by omega) (by omega) (by omega) (by omega), hg 251 _ (by omega) (by omega) (by omega) (by omega)]
    exact j4 k hk
  · rw [hg 250 _ (by omega) (by omega) (by omega) (by omega), hg 250 _ (by omega) (by omega) (by omega) (by omega)]
    exact j5 k k' hk hk'
section LN2
variable {sw sw' : Bool} {w w' : mj_W}
theorem M_place_b (hw' : wk sw' w') {g : mj_F} {np : Nat} (hnp : np ≤ 8) (e37 : g 223 37 = (np : Int)) (h : g 223 33 = 1) : ∃ v : Int, mj_call yM_placeHere w' g [.inr (.inl 223)] = some (w', g, some (.inl v)) := by
  obtain ⟨y, hy⟩ := M_seen_b hw' (r := 242) (m := np) (k_242 hw') hnp (by omega) h
  exact ⟨y, by rw [c_M_placeHere hw', e37, hy, mj_bi_some, if_pos (by omega)]⟩
theorem start_both (hw : wk sw w) (hw' : wk sw' w') {T : Nat → Int} {n p b c np ne st ln : Nat} {k x t v sd : Int} {f g : mj_F} (tj : TJ f g T n p b k x t v) (hk : k = 8) (h33 : g 223 33 = 0) (pj : PJ (fr sw) f g c np ne st ln sd) : LO (fr sw) T n b ln w w' f g (mj_call yR_readStart w f [.inr (.inl 3)]) (mj_call yM_lineHere w' g [.inr (.inl 223)]) := by
  have hP := fr5 sw
  obtain ⟨nj, pb, pc, pd, qj⟩ := pj
  obtain ⟨m0, m1, m2, m3, m4, m5, m6, m7, m8, m9⟩ := pc
  obtain ⟨tp, j1, j2, j3, j4, j5, j6, j7, j8, tk, j9, j10, j11⟩ := id tj
  have hk' := (TK_8 tk).1 hk
  have hb : b < p := j11 (by omega)
  rw [c_R_readStart hw, c_M_lineHere hw', M_isWord hw' h33, mj_bi_some, j7, j8, if_neg (show ¬ (t = 1 ∧ v = 3554411) by omega), if_pos rfl, M_isWord hw' h33, mj_bi_some, j7, j8, if_neg (show ¬ (t = 1 ∧ v = 17171557) by omega), if_pos rfl, M_isWord hw' h33, mj_bi_some, j7, j8, if_neg (show ¬ (t = 1 ∧ v = 168165) by omega), if_pos rfl, M_isWord hw' h33, mj_bi_some, j7, j8, if_pos hk', M_must_1 hw' _ (by decide), mj_bu_some, if_pos h33, m8, m9]
  by_cases h0 : sd = 0
  rotate_left
  · rw [if_neg h0, if_pos h0, l_M_lineHere_295 hw', M_opens_n hw' h33, mj_bu_some]
    have e33 : mj_u (mbad g 3) 223 40 1 223 33 = 1 := by rw [u_o (by omega)]; exact mbad_33 _ _
    have e37 : mj_u (mbad g 3) 223 40 1 223 37 = (np : Int) := by rw [u_o (by omega), mbad_o _ _ (by omega)]; exact m3
    obtain ⟨y, hy⟩ := M_place_b hw' pb.1 e37 e33
    rw [hy, mj_bi_some, l_M_lineHere_312 hw', R_fail hw, mj_bi_some, mj_gd_pos (by decide)]
    refine ⟨_, _, 0, rfl, rfl, CF_b _ _, ?_, Or.inr ⟨rfl, ?_⟩⟩
    · intro a q h1 h2
      rw [u_o (by omega), u_o (by omega)]
      exact mbad_o _ _ (by omega)
    · have z := BJ_b tj 3
      refine ⟨?_, ?_, ?_⟩
      · rw [u_o (by omega)]; exact e33
      · rw [u_o (by omega), u_o (by omega)]; exact z.2.1
      · rw [u_o (by omega), u_o (by omega)]; exact z.2.2
  rw [if_pos h0, if_neg (fun z => z h0), l_M_lineHere_295 hw', M_opens_y hw' h33 (by decide)]
  obtain ⟨f1, g1, p1, b1, k1, x1, t1, w1, a1, a2, a3, a4, a5, a6⟩ := adv_J hw hw' tp j1 j2 j10
  rw [a1, a2, mj_bu_some, mj_bu_some, mj_bu_some]
  have tj1 : TJ f1 (mj_u g1 223 40 1) T n p1 b1 k1 x1 t1 w1 := TJ_w2 a3 (fun _ _ _ => rfl) rfl (fun q h1 h2 => by rw [u_o (by omega)]) (by funext q; rw [u_o (by omega)])
  have h33_1 : mj_u g1 223 40 1 223 33 = 0 := by rw [u_o (by omega)]; exact (a6.2 33 (by omega)).trans h33
  have e2 : f1 (fr sw) 2 = (np : Int) := by rw [a5.1 _ (by omega)]; exact m2
  have e37 : mj_u g1 223 40 1 223 37 = (np : Int) := by rw [u_o (by omega)]; exact (a6.2 37 (by omega)).trans m3
  have en : ∀ i, i < np → f1 (fr sw + 2) i = mj_u g1 223 40 1 242 i := fun i hi => by rw [u_o (by omega), a5.1 _ (by omega), a6.1 _ (by omega)]; exact pd i hi
  rcases place_here hw hw' tj1 h33_1 pb.1 e2 e37 en with ⟨i, hi, c1, c2⟩ | ⟨c1, y, c2⟩
  rotate_left
  · rw [c1, c2, mj_bi_some, mj_bi_some, if_neg (fun z => z rfl), R_fail hw, mj_bi_some, mj_gd_pos (by decide), l_M_lineHere_312 hw']
    have z := BJ_b tj1 1
    refine ⟨_, _, 0, rfl, rfl, CF_t (CF_F a5) (CF_b _ _), ?_, Or.inr ⟨rfl, ?_, ?_, ?_⟩⟩
    · intro a q h1 h2
      rw [u_o (by omega), mbad_o _ _ (by omega), u_o (by omega)]
      exact MF_F a6 a q h1 h2
    · rw [u_o (by omega)]; exact z.1
    · rw [u_o (by omega)]; exact z.2.1
    · rw [u_o (by omega)]; exact z.2.2
  obtain ⟨tp1, i1, i2, i3, i4, i5, i6, i7, i8, tk1, i9, i10, i11⟩ := id tj1
  rw [c1, c2, mj_bi_some, if_pos (show ¬ (i : Int) = -1 by omega)]
  have tpA : TP (mj_u (mj_u f1 (fr sw) 4 (i : Int)) (fr sw) 5 1) (mj_u g1 223 40 1) T n := by
    obtain ⟨y1, y2, y3, y4, y5, y6⟩ := tp1
    refine ⟨y1, ?_, y3, fun q hq => ?_, y5, y6⟩
    · rw [u_o (by omega), u_o (by omega)]; exact y2
    · rw [u_o (by omega), u_o (by omega)]; exact y4 q hq
  obtain ⟨f4, g4, p4, b4, k4, x4, t4, w4, o1, o2, o3, o4, o5, o6⟩ := adv_J hw hw' tpA (by rw [u_o (by omega), u_o (by omega)]; exact i1) i2 i10
  rw [o1, o2, mj_bu_some, mj_bu_some, mj_bi_some, l_M_lineHere_312 hw']
  have fo : ∀ a q, a ≠ 3 → ¬ (a = fr sw ∧ (q = 4 ∨ q = 5)) → f4 a q = f a q := fun a q h1 h2 => by
    rw [o5.1 a h1, u_o (by omega), u_o (by omega), a5.1 a h1]
  have go : ∀ a q, ¬ (a = 223 ∧ (27 ≤ q ∧ q ≤ 30 ∨ q = 39 ∨ q = 40)) → mj_u g4 223 39 (i : Int) a q = g a q := fun a q h1 => by
    rw [u_o (by omega)]
    by_cases z : a = 223
    · subst z; rw [o6.2 q (by omega), u_o (by omega), a6.2 q (by omega)]
    · rw [o6.1 a z, u_o (by omega), a6.1 a z]
  refine ⟨_, _, 1, rfl, rfl, ?_, ?_, Or.inl ⟨rfl, ⟨?_, ?_, ?_, ?_, ?_⟩, ⟨p4, b4, k4, x4, t4, w4, TJ_w2 o3 (fun _ _ _ => rfl) rfl (fun q h1 h2 => by rw [u_o (by omega)]) (by funext q; rw [u_o (by omega)]), by omega⟩, c, np, ne, i, 1, ?_⟩⟩
  · intro a q h1 h2
    by_cases z : a = 3
    · subst z
      rw [o5.2 q (by omega), u_o (by omega), u_o (by omega), a5.2 q (by omega)]
    · exact fo a q z (by omega)
  · intro a q h1 h2
    exact go a q (by omega)
  · rw [o5.2 8 (by omega), u_o (by omega), u_o (by omega), a5.2 8 (by omega)]
  · rw [o5.2 9 (by omega), u_o (by omega), u_o (by omega), a5.2 9 (by omega)]
  · exact go 223 31 (by omega)
  · exact go 223 32 (by omega)
  · rw [go 223 33 (by omega)]; exact h33
  · obtain ⟨n1, n2, n3, n4⟩ := nj
    refine ⟨⟨n1, ?_, ?_, fun j hj => ?_⟩, ⟨pb.1, pb.2.1, Or.inr hi, Or.inr rfl⟩, ⟨?_, ?_, ?_, ?_, ?_, ?_, ?_, u_self, ?_, ?_⟩, fun j hj => ?_, QJ_c (fun a h1 h2 => by funext q; exact fo _ _ (by omega) (by omega)) (fun a h1 h2 => by funext q; exact go _ _ (by omega)) (Nat.le_refl _) qj⟩
    · rw [fo _ _ (by omega) (by omega)]; exact n2
    · rw [go _ _ (by omega)]; exact n3
    · rw [fo _ _ (by omega) (by omega), go _ _ (by omega)]; exact n4 j hj
    · rw [fo _ _ (by omega) (by omega)]; exact m0
    · rw [go _ _ (by omega)]; exact m1
    · rw [fo _ _ (by omega) (by omega)]; exact m2
    · rw [go _ _ (by omega)]; exact m3
    · rw [fo _ _ (by omega) (by omega)]; exact m4
    · rw [go _ _ (by omega)]; exact m5
    · rw [o5.1 _ (by omega), u_o (by omega), u_self]
    · rw [o5.1 _ (by omega), u_self]
    · rw [u_o (by omega), o6.2 40 (by omega), u_self]
    · rw [fo _ _ (by omega) (by omega), go _ _ (by omega)]
      exact pd j hj
end LN2
