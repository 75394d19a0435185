/-! The law's loop. -/
section LA
variable {w w' : mj_W} {f f' : mj_F} {X : Option mj_O}
theorem law_tab : mj_dec 314 40 = some (.tableswitch 2285 0 54 #[236, 309, 334, 359, 427, 495, 544, 593, 618, 655, 728, 765, 814, 851, 888, 925, 962, 999, 1036, 1061, 1098, 1111, 1172, 1197, 1234, 1307, 1344, 1381, 1418, 1431, 1468, 1529, 1566, 1591, 1604, 1617, 1642, 1667, 1692, 1705, 1742, 1791, 1840, 1853, 1914, 1951, 1988, 2037, 2086, 2111, 2148, 2173, 2198, 2235, 2260]) := by decide +kernel
set_option maxHeartbeats 8000000 in
theorem law_one {sw : Bool} {L i : Nat} {xs : Nat → Int} {u5 u6 : mj_V} (hL : L ≤ 3072) (hi : i + 5 < L) (S : LwS sw L xs w f) (s : Int) : LN L i xs w (mj_run 314 w f 40 (lawL i u5 u6) [.inl s]) := by
  by_cases ho : s < 0 ∨ 54 < s
  · rw [ms_tabOut (t := 2325) law_tab ho (by decide +kernel) rfl]
    exact LN_w ⟨f, rfl, S⟩
  by_cases hs0 : s = 0
  · rw [ms_tabIn (t := 276) law_tab ho (by rw [hs0]; decide +kernel) rfl]
    exact lv_0 hL hi S
  by_cases hs1 : s = 1
  · rw [ms_tabIn (t := 349) law_tab ho (by rw [hs1]; decide +kernel) rfl]
    exact lv_1 hL hi S
  by_cases hs2 : s = 2
  · rw [ms_tabIn (t := 374) law_tab ho (by rw [hs2]; decide +kernel) rfl]
    exact lv_2 hL hi S
  by_cases hs3 : s = 3
  · rw [ms_tabIn (t := 399) law_tab ho (by rw [hs3]; decide +kernel) rfl]
    exact lv_3 hL hi S
  by_cases hs4 : s = 4
  · rw [ms_tabIn (t := 467) law_tab ho (by rw [hs4]; decide +kernel) rfl]
    exact lv_4 hL hi S
  by_cases hs5 : s = 5
  · rw [ms_tabIn (t := 535) law_tab ho (by rw [hs5]; decide +kernel) rfl]
    exact lv_5 hL hi S
  by_cases hs6 : s = 6
  · rw [ms_tabIn (t := 584) law_tab ho (by rw [hs6]; decide +kernel) rfl]
    exact lv_6 hL hi S
  by_cases hs7 : s = 7
  · rw [ms_tabIn (t := 633) law_tab ho (by rw [hs7]; decide +kernel) rfl]
    exact lv_7 hL hi S
  by_cases hs8 : s = 8
  · rw [ms_tabIn (t := 658) law_tab ho (by rw [hs8]; decide +kernel) rfl]
    exact lv_8 hL hi S
  by_cases hs9 : s = 9
  · rw [ms_tabIn (t := 695) law_tab ho (by rw [hs9]; decide +kernel) rfl]
    exact lv_9 hL hi S
  by_cases hs10 : s = 10
  · rw [ms_tabIn (t := 768) law_tab ho (by rw [hs10]; decide +kernel) rfl]
    exact lv_10 hL hi S
  by_cases hs11 : s = 11
  · rw [ms_tabIn (t := 805) law_tab ho (by rw [hs11]; decide +kernel) rfl]
    exact lv_11 hL hi S
  by_cases hs12 : s = 12
  · rw [ms_tabIn (t := 854) law_tab ho (by rw [hs12]; decide +kernel) rfl]
    exact lv_12 hL hi S
  by_cases hs13 : s = 13
  · rw [ms_tabIn (t := 891) law_tab ho (by rw [hs13]; decide +kernel) rfl]
    exact lv_13 hL hi S
  by_cases hs14 : s = 14
  · rw [ms_tabIn (t := 928) law_tab ho (by rw [hs14]; decide +kernel) rfl]
    exact lv_14 hL hi S
  by_cases hs15 : s = 15
  · rw [ms_tabIn (t := 965) law_tab ho (by rw [hs15]; decide +kernel) rfl]
    exact lv_15 hL hi S
  by_cases hs16 : s = 16
  · rw [ms_tabIn (t := 1002) law_tab ho (by rw [hs16]; decide +kernel) rfl]
    exact lv_16 hL hi S
  by_cases hs17 : s = 17
  · rw [ms_tabIn (t := 1039) law_tab ho (by rw [hs17]; decide +kernel) rfl]
    exact lv_17 hL hi S
  by_cases hs18 : s = 18
  · rw [ms_tabIn (t := 1076) law_tab ho (by rw [hs18]; decide +kernel) rfl]
    exact lv_18 hL hi S
  by_cases hs19 : s = 19
  · rw [ms_tabIn (t := 1101) law_tab ho (by rw [hs19]; decide +kernel) rfl]
    exact lv_19 hL hi S
  by_cases hs20 : s = 20
  · rw [ms_tabIn (t := 1138) law_tab ho (by rw [hs20]; decide +kernel) rfl]
    exact lv_20 hL hi S
  by_cases hs21 : s = 21
  · rw [ms_tabIn (t := 1151) law_tab ho (by rw [hs21]; decide +kernel) rfl]
    exact lv_21 hL hi S
  by_cases hs22 : s = 22
  · rw [ms_tabIn (t := 1212) law_tab ho (by rw [hs22]; decide +kernel) rfl]
    exact lv_22 hL hi S
  by_cases hs23 : s = 23
  · rw [ms_tabIn (t := 1237) law_tab ho (by rw [hs23]; decide +kernel) rfl]
    exact lv_23 hL hi S
  by_cases hs24 : s = 24
  · rw [ms_tabIn (t := 1274) law_tab ho (by rw [hs24]; decide +kernel) rfl]
    exact lv_24 hL hi S
  by_cases hs25 : s = 25
  · rw [ms_tabIn (t := 1347) law_tab ho (by rw [hs25]; decide +kernel) rfl]
    exact lv_25 hL hi S
  by_cases hs26 : s = 26
  · rw [ms_tabIn (t := 1384) law_tab ho (by rw [hs26]; decide +kernel) rfl]
    exact lv_26 hL hi S
  by_cases hs27 : s = 27
  · rw [ms_tabIn (t := 1421) law_tab ho (by rw [hs27]; decide +kernel) rfl]
    exact lv_27 hL hi S
  by_cases hs28 : s = 28
  · rw [ms_tabIn (t := 1458) law_tab ho (by rw [hs28]; decide +kernel) rfl]
    exact lv_28 hL hi S
  by_cases hs29 : s = 29
  · rw [ms_tabIn (t := 1471) law_tab ho (by rw [hs29]; decide +kernel) rfl]
    exact lv_29 hL hi S
  by_cases hs30 : s = 30
  · rw [ms_tabIn (t := 1508) law_tab ho (by rw [hs30]; decide +kernel) rfl]
    exact lv_30 hL hi S
  by_cases hs31 : s = 31
  · rw [ms_tabIn (t := 1569) law_tab ho (by rw [hs31]; decide +kernel) rfl]
    exact lv_31 hL hi S
  by_cases hs32 : s = 32
  · rw [ms_tabIn (t := 1606) law_tab ho (by rw [hs32]; decide +kernel) rfl]
    exact lv_32 hL hi S
  by_cases hs33 : s = 33
  · rw [ms_tabIn (t := 1631) law_tab ho (by rw [hs33]; decide +kernel) rfl]
    exact lv_33 hL hi S
  by_cases hs34 : s = 34
  · rw [ms_tabIn (t := 1644) law_tab ho (by rw [hs34]; decide +kernel) rfl]
    exact lv_34 hL hi S
  by_cases hs35 : s = 35
  · rw [ms_tabIn (t := 1657) law_tab ho (by rw [hs35]; decide +kernel) rfl]
    exact lv_35 hL hi S
  by_cases hs36 : s = 36
  · rw [ms_tabIn (t := 1682) law_tab ho (by rw [hs36]; decide +kernel) rfl]
    exact lv_36 hL hi S
  by_cases hs37 : s = 37
  · rw [ms_tabIn (t := 1707) law_tab ho (by rw [hs37]; decide +kernel) rfl]
    exact lv_37 hL hi S
  by_cases hs38 : s = 38
  · rw [ms_tabIn (t := 1732) law_tab ho (by rw [hs38]; decide +kernel) rfl]
    exact lv_38 hL hi S
  by_cases hs39 : s = 39
  · rw [ms_tabIn (t := 1745) law_tab ho (by rw [hs39]; decide +kernel) rfl]
    exact lv_39 hL hi S
  by_cases hs40 : s = 40
  · rw [ms_tabIn (t := 1782) law_tab ho (by rw [hs40]; decide +kernel) rfl]
    exact lv_40 hL hi S
  by_cases hs41 : s = 41
  · rw [ms_tabIn (t := 1831) law_tab ho (by rw [hs41]; decide +kernel) rfl]
    exact lv_41 hL hi S
  by_cases hs42 : s = 42
  · rw [ms_tabIn (t := 1880) law_tab ho (by rw [hs42]; decide +kernel) rfl]
    exact lv_42 hL hi S
  by_cases hs43 : s = 43
  · rw [ms_tabIn (t := 1893) law_tab ho (by rw [hs43]; decide +kernel) rfl]
    exact lv_43 hL hi S
  by_cases hs44 : s = 44
  · rw [ms_tabIn (t := 1954) law_tab ho (by rw [hs44]; decide +kernel) rfl]
    exact lv_44 hL hi S
  by_cases hs45 : s = 45
  · rw [ms_tabIn (t := 1991) law_tab ho (by rw [hs45]; decide +kernel) rfl]
    exact lv_45 hL hi S
  by_cases hs46 : s = 46
  · rw [ms_tabIn (t := 2028) law_tab ho (by rw [hs46]; decide +kernel) rfl]
    exact lv_46 hL hi S
  by_cases hs47 : s = 47
  · rw [ms_tabIn (t := 2077) law_tab ho (by rw [hs47]; decide +kernel) rfl]
    exact lv_47 hL hi S
  by_cases hs48 : s = 48
  · rw [ms_tabIn (t := 2126) law_tab ho (by rw [hs48]; decide +kernel) rfl]
    exact lv_48 hL hi S
  by_cases hs49 : s = 49
  · rw [ms_tabIn (t := 2151) law_tab ho (by rw [hs49]; decide +kernel) rfl]
    exact lv_49 hL hi S
  by_cases hs50 : s = 50
  · rw [ms_tabIn (t := 2188) law_tab ho (by rw [hs50]; decide +kernel) rfl]
    exact lv_50 hL hi S
  by_cases hs51 : s = 51
  · rw [ms_tabIn (t := 2213) law_tab ho (by rw [hs51]; decide +kernel) rfl]
    exact lv_51 hL hi S
  by_cases hs52 : s = 52
  · rw [ms_tabIn (t := 2238) law_tab ho (by rw [hs52]; decide +kernel) rfl]
    exact lv_52 hL hi S
  by_cases hs53 : s = 53
  · rw [ms_tabIn (t := 2275) law_tab ho (by rw [hs53]; decide +kernel) rfl]
    exact lv_53 hL hi S
  by_cases hs54 : s = 54
  · rw [ms_tabIn (t := 2300) law_tab ho (by rw [hs54]; decide +kernel) rfl]
    exact lv_54 hL hi S
  exfalso
  omega
/-- the loop, to its end -/
theorem law_loop {L : Nat} {xs : Nat → Int} (hL : L ≤ 3072) : ∀ (d i : Nat) (sw : Bool) (w : mj_W) (f : mj_F) (u5 u6 : mj_V), L - i ≤ 6 * d → i ≤ L → LwS sw L xs w f → ∃ (W : mj_W) (F : mj_F), mj_run 314 w f 23 (lawL i u5 u6) [] = some (W, F, some (.inl 1)) ∧ W.2.2.1 ≤ w.2.2.1 + d ∧ W.2.2.2 ≤ w.2.2.2 + 6 * d := by
  have e6 : mj_w ((L : Int) - 6) = (L : Int) - 6 := by unfold mj_w; omega
  have head : ∀ (i : Nat) (w : mj_W) (f : mj_F) (u5 u6 : mj_V), w.1 1 = (104, L) → mj_run 314 w f 23 (lawL i u5 u6) [] = if (L : Int) - 6 < (i : Int) then some (w, f, some (.inl 1)) else mj_run 314 w f 33 (lawL i u5 u6) [] := by
    intro i w f u5 u6 h1
    refine ms_iload (k := 4) (p' := 25) (by decide +kernel) rfl rfl ?_
    refine ms_aload_n (k := 0) (p' := 26) (by decide +kernel) rfl rfl ?_
    refine ms_alen (p' := 27) (by decide +kernel) rfl h1 ⟨by decide, by omega⟩ ?_
    refine ms_bipush (n := 6) (v := 6) (p' := 29) (by decide +kernel) rfl ?_
    refine ms_isub (p' := 30) (by decide +kernel) rfl ?_
    rw [e6]
    refine ms_icmp_gt (off := 2301) (t := 2331) (p' := 33) (by decide +kernel) rfl (fun _ => ?_) (fun _ => rfl)
    refine ms_iconst (n := 1) (v := 1) (p' := 2332) (by decide +kernel) rfl ?_
    exact (ms_zret (by decide +kernel)).trans (mj_gd_pos (by decide) _)
  intro d
  induction d with
  | zero =>
    intro i sw w f u5 u6 h1 h2 S
    exact ⟨w, f, by rw [head i w f u5 u6 S.2.2.2.2.1, if_pos (by omega)], by omega, by omega⟩
  | succ d ih =>
    intro i sw w f u5 u6 h1 h2 S
    rw [head i w f u5 u6 S.2.2.2.2.1]
    by_cases hend : (L : Int) - 6 < (i : Int)
    · exact ⟨w, f, by rw [if_pos hend], by omega, by omega⟩
    rw [if_neg hend]
    have hi : i + 5 < L := by omega
    have h0 : mj_run 314 w f 33 (lawL i u5 u6) [] = mj_run 314 w f 40 (lawL i u5 u6) [.inl (mj_and (f 1 i) 63)] := by
      refine ms_aload_n (k := 0) (p' := 34) (by decide +kernel) rfl rfl ?_
      refine ms_iload (k := 4) (p' := 36) (by decide +kernel) rfl rfl ?_
      refine (ms_sald (p' := 37) (by decide +kernel) rfl S.2.2.2.2.1 (fun _ => ?_)).trans (mj_gd_pos ⟨by omega, by omega⟩ _)
      rw [Int.toNat_natCast]
      refine ms_bipush (n := 63) (v := 63) (p' := 39) (by decide +kernel) rfl ?_
      exact ms_iand (p' := 40) (by decide +kernel) rfl rfl
    obtain ⟨sw1, W, F, v5, v6, e, S1, b1, b2⟩ := law_one (u5 := u5) (u6 := u6) hL hi S (mj_and (f 1 i) 63)
    rw [h0, e]
    have e2 : mj_w ((i : Int) + 6) = ((i + 6 : Nat) : Int) := by unfold mj_w; omega
    have h3 : mj_run 314 W F 2325 (lawL i v5 v6) [] = mj_run 314 W F 23 (lawL (i + 6) v5 v6) [] := by
      refine ms_iinc (k := 4) (n := 6) (ls' := lawL (i + 6) v5 v6) (p' := 2328) (by decide +kernel) rfl rfl (by rw [e2]; rfl) ?_
      exact ms_goto (off := -2305) (p' := 23) (by decide +kernel) rfl
    rw [h3]
    obtain ⟨W2, F2, a1, a2, a3⟩ := ih (i + 6) sw1 W F v5 v6 (by omega) (by omega) S1
    exact ⟨W2, F2, a1, by omega, by omega⟩
end LA
