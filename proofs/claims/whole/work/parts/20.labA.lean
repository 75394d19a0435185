/-! What each method does from its entry (c_), and from the heads of its loops (l_). Written by wip/whole/gen/mkall.py out of the bytes. -/
theorem c_A_fill {sw : Bool} {w : mj_W} (hw : wk sw w) (f : mj_F) (r0 nr0 : Nat) (x1 : Int) (hr0 : w.1 r0 = (100, nr0)) (lr0 : nr0 < 2147483648) : mj_call yA_fill w f [.inr (.inl r0), .inl x1] = mj_run yA_fill w f 5 [.inr (.inl r0), .inl x1, .inl 0, .inl ((nr0 : Nat) : Int)] [] := by
  show mj_run yA_fill w f 0 [.inr (.inl r0), .inl x1, .inr (.inr (.inr 0)), .inr (.inr (.inr 0))] [] = _
  refine ms_iconst (n := 0) (v := 0) (p' := 1) (by decide +kernel) rfl ?_
  refine ms_istore_n (k := 2) (ls' := [.inr (.inl r0), .inl x1, .inl 0, .inr (.inr (.inr 0))]) (p' := 2) (by decide +kernel) rfl (Nat.le_of_ble_eq_true rfl) rfl ?_
  refine ms_aload_n (k := 0) (p' := 3) (by decide +kernel) rfl rfl ?_
  refine ms_alen (p' := 4) (by decide +kernel) rfl hr0 ⟨by decide, lr0⟩ ?_
  refine ms_istore_n (k := 3) (ls' := [.inr (.inl r0), .inl x1, .inl 0, .inl ((nr0 : Nat) : Int)]) (p' := 5) (by decide +kernel) rfl (Nat.le_of_ble_eq_true rfl) rfl ?_
  rfl
theorem l_A_fill_5 {sw : Bool} {w : mj_W} (hw : wk sw w) (f : mj_F) (r0 nr0 : Nat) (x1 : Int) (x2 : Int) (x3 : Int) (hr0 : w.1 r0 = (100, nr0)) (lr0 : nr0 < 2147483648) : mj_run yA_fill w f 5 [.inr (.inl r0), .inl x1, .inl x2, .inl x3] [] = if x3 ≤ x2 then some (w, f, none) else mj_gd (0 ≤ x2 ∧ x2 < ((nr0 : Nat) : Int)) (mj_run yA_fill w (mj_u f r0 x2.toNat x1) 5 [.inr (.inl r0), .inl x1, .inl (mj_w (x2 + 1)), .inl x3] []) := by
  refine ms_iload_n (k := 2) (p' := 6) (by decide +kernel) rfl rfl ?_
  refine ms_iload_n (k := 3) (p' := 7) (by decide +kernel) rfl rfl ?_
  refine ms_icmp_ge (off := 13) (t := 20) (p' := 10) (by decide +kernel) rfl (fun hc => ?_) (fun hc => ?_)
  · exact ms_vret (by decide +kernel)
  · refine ms_aload_n (k := 0) (p' := 11) (by decide +kernel) rfl rfl ?_
    refine ms_iload_n (k := 2) (p' := 12) (by decide +kernel) rfl rfl ?_
    refine ms_iload_n (k := 1) (p' := 13) (by decide +kernel) rfl rfl ?_
    refine ms_iast (p' := 14) (by decide +kernel) rfl hr0 (fun hj1 => ?_)
    refine ms_iinc (k := 2) (n := 1) (ls' := [.inr (.inl r0), .inl x1, .inl (mj_w (x2 + 1)), .inl x3]) (p' := 17) (by decide +kernel) rfl rfl rfl ?_
    refine ms_goto (off := (-12)) (p' := 5) (by decide +kernel) ?_
    rfl
theorem c_L_clear {sw : Bool} {w : mj_W} (hw : wk sw w) (f : mj_F) (p : Nat) (hp : pn p) : mj_call yL_clear w f [.inr (.inl p)] = mj_bu (mj_call yA_fill w (mj_u (mj_u (mj_u (mj_u (mj_u (mj_u f p 0 0) p 1 0) p 2 0) p 3 0) p 4 0) p 5 0) [.inr (.inl (p + 3)), .inl 0]) (fun f1 => mj_bu (mj_call yA_fill w f1 [.inr (.inl (p + 4)), .inl 0]) (fun f2 => mj_bu (mj_call yA_fill w f2 [.inr (.inl (p + 10)), .inl 0]) (fun f3 => some (w, f3, none)))) := by
  show mj_run yL_clear w f 0 [.inr (.inl p)] [] = _
  refine ms_aload_n (k := 0) (p' := 1) (by decide +kernel) rfl rfl ?_
  refine ms_iconst (n := 0) (v := 0) (p' := 2) (by decide +kernel) rfl ?_
  refine ms_puti (idx := 48) (ci := 3) (k := 0) (q := 200) (p' := 5) (by decide +kernel) rfl (pn_k hp hw) ?_
  refine ms_aload_n (k := 0) (p' := 6) (by decide +kernel) rfl rfl ?_
  refine ms_iconst (n := 0) (v := 0) (p' := 7) (by decide +kernel) rfl ?_
  refine ms_puti (idx := 52) (ci := 3) (k := 1) (q := 204) (p' := 10) (by decide +kernel) rfl (pn_k hp hw) ?_
  refine ms_aload_n (k := 0) (p' := 11) (by decide +kernel) rfl rfl ?_
  refine ms_iconst (n := 0) (v := 0) (p' := 12) (by decide +kernel) rfl ?_
  refine ms_puti (idx := 55) (ci := 3) (k := 2) (q := 208) (p' := 15) (by decide +kernel) rfl (pn_k hp hw) ?_
  refine ms_aload_n (k := 0) (p' := 16) (by decide +kernel) rfl rfl ?_
  refine ms_iconst (n := 0) (v := 0) (p' := 17) (by decide +kernel) rfl ?_
  refine ms_puti (idx := 58) (ci := 3) (k := 3) (q := 211) (p' := 20) (by decide +kernel) rfl (pn_k hp hw) ?_
  refine ms_aload_n (k := 0) (p' := 21) (by decide +kernel) rfl rfl ?_
  refine ms_iconst (n := 0) (v := 0) (p' := 22) (by decide +kernel) rfl ?_
  refine ms_puti (idx := 61) (ci := 3) (k := 4) (q := 217) (p' := 25) (by decide +kernel) rfl (pn_k hp hw) ?_
  refine ms_aload_n (k := 0) (p' := 26) (by decide +kernel) rfl rfl ?_
  refine ms_iconst (n := 0) (v := 0) (p' := 27) (by decide +kernel) rfl ?_
  refine Eq.trans (ms_putz (idx := 64) (ci := 3) (k := 5) (q := 222) (p' := 30) (by decide +kernel) rfl (pn_k hp hw) (fun _ => ?_)) (mj_gd_pos (by decide) _)
  refine ms_aload_n (k := 0) (p' := 31) (by decide +kernel) rfl rfl ?_
  refine ms_getr (idx := 18) (ci := 3) (k := 8) (q := 228) (p' := 34) (by decide +kernel) rfl (pn_k hp hw) (pn_r8 hp hw) (by omega) ?_
  refine ms_iconst (n := 0) (v := 0) (p' := 35) (by decide +kernel) rfl ?_
  refine ms_stat_u (idx := 68) (cy := yA_fill) (n := 2) (as := [.inr (.inl (p + 3)), .inl 0]) (rest := []) (p' := 38) (by decide +kernel) rfl rfl rfl rfl rfl (fun f1 => ?_)
  refine ms_aload_n (k := 0) (p' := 39) (by decide +kernel) rfl rfl ?_
  refine ms_getr (idx := 21) (ci := 3) (k := 9) (q := 231) (p' := 42) (by decide +kernel) rfl (pn_k hp hw) (pn_r9 hp hw) (by omega) ?_
  refine ms_iconst (n := 0) (v := 0) (p' := 43) (by decide +kernel) rfl ?_
  refine ms_stat_u (idx := 68) (cy := yA_fill) (n := 2) (as := [.inr (.inl (p + 4)), .inl 0]) (rest := []) (p' := 46) (by decide +kernel) rfl rfl rfl rfl rfl (fun f2 => ?_)
  refine ms_aload_n (k := 0) (p' := 47) (by decide +kernel) rfl rfl ?_
  refine ms_getr (idx := 39) (ci := 3) (k := 15) (q := 261) (p' := 50) (by decide +kernel) rfl (pn_k hp hw) (pn_r15 hp hw) (by omega) ?_
  refine ms_iconst (n := 0) (v := 0) (p' := 51) (by decide +kernel) rfl ?_
  refine ms_stat_u (idx := 68) (cy := yA_fill) (n := 2) (as := [.inr (.inl (p + 10)), .inl 0]) (rest := []) (p' := 54) (by decide +kernel) rfl rfl rfl rfl rfl (fun f3 => ?_)
  exact ms_vret (by decide +kernel)
theorem c_L_indexIn {sw : Bool} {w : mj_W} (hw : wk sw w) (f : mj_F) (r0 nr0 : Nat) (x1 : Int) (x2 : Int) (hr0 : w.1 r0 = (100, nr0)) : mj_call yL_indexIn w f [.inr (.inl r0), .inl x1, .inl x2] = mj_run yL_indexIn w f 2 [.inr (.inl r0), .inl x1, .inl x2, .inl 0] [] := by
  show mj_run yL_indexIn w f 0 [.inr (.inl r0), .inl x1, .inl x2, .inr (.inr (.inr 0))] [] = _
  refine ms_iconst (n := 0) (v := 0) (p' := 1) (by decide +kernel) rfl ?_
  refine ms_istore_n (k := 3) (ls' := [.inr (.inl r0), .inl x1, .inl x2, .inl 0]) (p' := 2) (by decide +kernel) rfl (Nat.le_of_ble_eq_true rfl) rfl ?_
  rfl
theorem l_L_indexIn_2 {sw : Bool} {w : mj_W} (hw : wk sw w) (f : mj_F) (r0 nr0 : Nat) (x1 : Int) (x2 : Int) (x3 : Int) (hr0 : w.1 r0 = (100, nr0)) : mj_run yL_indexIn w f 2 [.inr (.inl r0), .inl x1, .inl x2, .inl x3] [] = if x1 ≤ x3 then some (w, f, some (.inl (-1))) else mj_gd (0 ≤ x3 ∧ x3 < ((nr0 : Nat) : Int)) (if ¬ (f r0 x3.toNat) = x2 then mj_run yL_indexIn w f 2 [.inr (.inl r0), .inl x1, .inl x2, .inl (mj_w (x3 + 1))] [] else some (w, f, some (.inl x3))) := by
  refine ms_iload_n (k := 3) (p' := 3) (by decide +kernel) rfl rfl ?_
  refine ms_iload_n (k := 1) (p' := 4) (by decide +kernel) rfl rfl ?_
  refine ms_icmp_ge (off := 18) (t := 22) (p' := 7) (by decide +kernel) rfl (fun hc => ?_) (fun hc => ?_)
  · refine ms_iconst (n := (-1)) (v := (-1)) (p' := 23) (by decide +kernel) rfl ?_
    exact ms_iret (by decide +kernel)
  · refine ms_aload_n (k := 0) (p' := 8) (by decide +kernel) rfl rfl ?_
    refine ms_iload_n (k := 3) (p' := 9) (by decide +kernel) rfl rfl ?_
    refine ms_iald (p' := 10) (by decide +kernel) rfl hr0 (fun hj1 => ?_)
    refine ms_iload_n (k := 2) (p' := 11) (by decide +kernel) rfl rfl ?_
    refine ms_icmp_ne (off := 5) (t := 16) (p' := 14) (by decide +kernel) rfl (fun hc => ?_) (fun hc => ?_)
    · refine ms_iinc (k := 3) (n := 1) (ls' := [.inr (.inl r0), .inl x1, .inl x2, .inl (mj_w (x3 + 1))]) (p' := 19) (by decide +kernel) rfl rfl rfl ?_
      refine ms_goto (off := (-17)) (p' := 2) (by decide +kernel) ?_
      rfl
    · refine ms_iload_n (k := 3) (p' := 15) (by decide +kernel) rfl rfl ?_
      exact ms_iret (by decide +kernel)
theorem c_L_clockNamed {sw : Bool} {w : mj_W} (hw : wk sw w) (f : mj_F) (p : Nat) (x1 : Int) (hp : pn p) : mj_call yL_clockNamed w f [.inr (.inl p), .inl x1] = mj_bi (mj_call yL_indexIn w f [.inr (.inl (p + 1)), .inl (f p 1), .inl x1]) (fun f1 v2 => some (w, f1, some (.inl v2))) := by
  show mj_run yL_clockNamed w f 0 [.inr (.inl p), .inl x1] [] = _
  refine ms_aload_n (k := 0) (p' := 1) (by decide +kernel) rfl rfl ?_
  refine ms_getr (idx := 9) (ci := 3) (k := 6) (q := 224) (p' := 4) (by decide +kernel) rfl (pn_k hp hw) (pn_r6 hp hw) (by omega) ?_
  refine ms_aload_n (k := 0) (p' := 5) (by decide +kernel) rfl rfl ?_
  refine ms_geti (idx := 52) (ci := 3) (k := 1) (q := 204) (p' := 8) (by decide +kernel) rfl (pn_k hp hw) ?_
  refine ms_iload_n (k := 1) (p' := 9) (by decide +kernel) rfl rfl ?_
  refine ms_stat_i (idx := 74) (cy := yL_indexIn) (n := 3) (as := [.inr (.inl (p + 1)), .inl (f p 1), .inl x1]) (rest := []) (p' := 12) (by decide +kernel) rfl rfl rfl rfl rfl (fun f1 v2 => ?_)
  exact ms_iret (by decide +kernel)
theorem c_L_placeNamed {sw : Bool} {w : mj_W} (hw : wk sw w) (f : mj_F) (p : Nat) (x1 : Int) (hp : pn p) : mj_call yL_placeNamed w f [.inr (.inl p), .inl x1] = mj_bi (mj_call yL_indexIn w f [.inr (.inl (p + 2)), .inl (f p 2), .inl x1]) (fun f1 v2 => some (w, f1, some (.inl v2))) := by
  show mj_run yL_placeNamed w f 0 [.inr (.inl p), .inl x1] [] = _
  refine ms_aload_n (k := 0) (p' := 1) (by decide +kernel) rfl rfl ?_
  refine ms_getr (idx := 15) (ci := 3) (k := 7) (q := 226) (p' := 4) (by decide +kernel) rfl (pn_k hp hw) (pn_r7 hp hw) (by omega) ?_
  refine ms_aload_n (k := 0) (p' := 5) (by decide +kernel) rfl rfl ?_
  refine ms_geti (idx := 55) (ci := 3) (k := 2) (q := 208) (p' := 8) (by decide +kernel) rfl (pn_k hp hw) ?_
  refine ms_iload_n (k := 1) (p' := 9) (by decide +kernel) rfl rfl ?_
  refine ms_stat_i (idx := 74) (cy := yL_indexIn) (n := 3) (as := [.inr (.inl (p + 2)), .inl (f p 2), .inl x1]) (rest := []) (p' := 12) (by decide +kernel) rfl rfl rfl rfl rfl (fun f1 v2 => ?_)
  exact ms_iret (by decide +kernel)
theorem c_X_stayRules {sw : Bool} {w : mj_W} (hw : wk sw w) (f : mj_F) (x0 : Int)  : mj_call yX_stayRules w f [.inl x0] = some (w, f, some (.inl x0)) := by
  show mj_run yX_stayRules w f 0 [.inl x0] [] = _
  refine ms_iload_n (k := 0) (p' := 1) (by decide +kernel) rfl rfl ?_
  exact ms_iret (by decide +kernel)
theorem c_L_addRule {sw : Bool} {w : mj_W} (hw : wk sw w) (f : mj_F) (p : Nat) (x1 : Int) (x2 : Int) (x3 : Int) (x4 : Int) (hp : pn p) : mj_call yL_addRule w f [.inr (.inl p), .inl x1, .inl x2, .inl x3, .inl x4] = mj_gd (0 ≤ x1 ∧ x1 < ((24 : Nat) : Int)) (mj_gd (0 ≤ (mj_w ((mj_w (x1 * 6)) + (f (p + 4) x1.toNat))) ∧ (mj_w ((mj_w (x1 * 6)) + (f (p + 4) x1.toNat))) < ((144 : Nat) : Int)) (mj_gd (0 ≤ (mj_w ((mj_w (x1 * 6)) + (f (p + 4) x1.toNat))) ∧ (mj_w ((mj_w (x1 * 6)) + (f (p + 4) x1.toNat))) < ((144 : Nat) : Int)) (mj_gd (0 ≤ (mj_w ((mj_w (x1 * 6)) + (f (p + 4) x1.toNat))) ∧ (mj_w ((mj_w (x1 * 6)) + (f (p + 4) x1.toNat))) < ((144 : Nat) : Int)) (mj_gd (0 ≤ x1 ∧ x1 < ((24 : Nat) : Int)) (mj_gd (0 ≤ x1 ∧ x1 < ((24 : Nat) : Int)) (mj_gd (0 ≤ x2 ∧ x2 < ((4 : Nat) : Int)) (mj_gd (0 ≤ x2 ∧ x2 < ((4 : Nat) : Int)) (some (w, (mj_u (mj_u (mj_u (mj_u (mj_u f (p + 5) (mj_w ((mj_w (x1 * 6)) + (f (p + 4) x1.toNat))).toNat x2) (p + 6) (mj_w ((mj_w (x1 * 6)) + (f (p + 4) x1.toNat))).toNat x3) (p + 7) (mj_w ((mj_w (x1 * 6)) + (f (p + 4) x1.toNat))).toNat x4) (p + 4) x1.toNat (mj_w (((mj_u (mj_u (mj_u f (p + 5) (mj_w ((mj_w (x1 * 6)) + (f (p + 4) x1.toNat))).toNat x2) (p + 6) (mj_w ((mj_w (x1 * 6)) + (f (p + 4) x1.toNat))).toNat x3) (p + 7) (mj_w ((mj_w (x1 * 6)) + (f (p + 4) x1.toNat))).toNat x4) (p + 4) x1.toNat) + 1))) (p + 3) x2.toNat (if ((mj_u (mj_u (mj_u (mj_u f (p + 5) (mj_w ((mj_w (x1 * 6)) + (f (p + 4) x1.toNat))).toNat x2) (p + 6) (mj_w ((mj_w (x1 * 6)) + (f (p + 4) x1.toNat))).toNat x3) (p + 7) (mj_w ((mj_w (x1 * 6)) + (f (p + 4) x1.toNat))).toNat x4) (p + 4) x1.toNat (mj_w (((mj_u (mj_u (mj_u f (p + 5) (mj_w ((mj_w (x1 * 6)) + (f (p + 4) x1.toNat))).toNat x2) (p + 6) (mj_w ((mj_w (x1 * 6)) + (f (p + 4) x1.toNat))).toNat x3) (p + 7) (mj_w ((mj_w (x1 * 6)) + (f (p + 4) x1.toNat))).toNat x4) (p + 4) x1.toNat) + 1))) (p + 3) x2.toNat) < x4 then x4 else ((mj_u (mj_u (mj_u (mj_u f (p + 5) (mj_w ((mj_w (x1 * 6)) + (f (p + 4) x1.toNat))).toNat x2) (p + 6) (mj_w ((mj_w (x1 * 6)) + (f (p + 4) x1.toNat))).toNat x3) (p + 7) (mj_w ((mj_w (x1 * 6)) + (f (p + 4) x1.toNat))).toNat x4) (p + 4) x1.toNat (mj_w (((mj_u (mj_u (mj_u f (p + 5) (mj_w ((mj_w (x1 * 6)) + (f (p + 4) x1.toNat))).toNat x2) (p + 6) (mj_w ((mj_w (x1 * 6)) + (f (p + 4) x1.toNat))).toNat x3) (p + 7) (mj_w ((mj_w (x1 * 6)) + (f (p + 4) x1.toNat))).toNat x4) (p + 4) x1.toNat) + 1))) (p + 3) x2.toNat))), none))))))))) := by
  show mj_run yL_addRule w f 0 [.inr (.inl p), .inl x1, .inl x2, .inl x3, .inl x4, .inr (.inr (.inr 0))] [] = _
  refine ms_iload_n (k := 1) (p' := 1) (by decide +kernel) rfl rfl ?_
  refine ms_bipush (n := 6) (v := 6) (p' := 3) (by decide +kernel) rfl ?_
  refine ms_imul (p' := 4) (by decide +kernel) rfl ?_
  refine ms_aload_n (k := 0) (p' := 5) (by decide +kernel) rfl rfl ?_
  refine ms_getr (idx := 21) (ci := 3) (k := 9) (q := 231) (p' := 8) (by decide +kernel) rfl (pn_k hp hw) (pn_r9 hp hw) (by omega) ?_
  refine ms_iload_n (k := 1) (p' := 9) (by decide +kernel) rfl rfl ?_
  refine ms_iald (p' := 10) (by decide +kernel) rfl (pn_k9 hp hw) (fun hj1 => ?_)
  refine ms_iadd (p' := 11) (by decide +kernel) rfl ?_
  refine ms_istore (k := 5) (ls' := [.inr (.inl p), .inl x1, .inl x2, .inl x3, .inl x4, .inl (mj_w ((mj_w (x1 * 6)) + (f (p + 4) x1.toNat)))]) (p' := 13) (by decide +kernel) rfl (Nat.le_of_ble_eq_true rfl) rfl ?_
  refine ms_aload_n (k := 0) (p' := 14) (by decide +kernel) rfl rfl ?_
  refine ms_getr (idx := 24) (ci := 3) (k := 10) (q := 235) (p' := 17) (by decide +kernel) rfl (pn_k hp hw) (pn_r10 hp hw) (by omega) ?_
  refine ms_iload (k := 5) (p' := 19) (by decide +kernel) rfl rfl ?_
  refine ms_iload_n (k := 2) (p' := 20) (by decide +kernel) rfl rfl ?_
  refine ms_iast (p' := 21) (by decide +kernel) rfl (pn_k10 hp hw) (fun hj2 => ?_)
  refine ms_aload_n (k := 0) (p' := 22) (by decide +kernel) rfl rfl ?_
  refine ms_getr (idx := 27) (ci := 3) (k := 11) (q := 239) (p' := 25) (by decide +kernel) rfl (pn_k hp hw) (pn_r11 hp hw) (by omega) ?_
  refine ms_iload (k := 5) (p' := 27) (by decide +kernel) rfl rfl ?_
  refine ms_iload_n (k := 3) (p' := 28) (by decide +kernel) rfl rfl ?_
  refine ms_iast (p' := 29) (by decide +kernel) rfl (pn_k11 hp hw) (fun hj3 => ?_)
  refine ms_aload_n (k := 0) (p' := 30) (by decide +kernel) rfl rfl ?_
  refine ms_getr (idx := 30) (ci := 3) (k := 12) (q := 243) (p' := 33) (by decide +kernel) rfl (pn_k hp hw) (pn_r12 hp hw) (by omega) ?_
  refine ms_iload (k := 5) (p' := 35) (by decide +kernel) rfl rfl ?_
  refine ms_iload (k := 4) (p' := 37) (by decide +kernel) rfl rfl ?_
  refine ms_iast (p' := 38) (by decide +kernel) rfl (pn_k12 hp hw) (fun hj4 => ?_)
  refine ms_aload_n (k := 0) (p' := 39) (by decide +kernel) rfl rfl ?_
  refine ms_getr (idx := 21) (ci := 3) (k := 9) (q := 231) (p' := 42) (by decide +kernel) rfl (pn_k hp hw) (pn_r9 hp hw) (by omega) ?_
  refine ms_iload_n (k := 1) (p' := 43) (by decide +kernel) rfl rfl ?_
  refine ms_dup2 (p' := 44) (by decide +kernel) rfl ?_
  refine ms_iald (p' := 45) (by decide +kernel) rfl (pn_k9 hp hw) (fun hj5 => ?_)
  refine ms_iconst (n := 1) (v := 1) (p' := 46) (by decide +kernel) rfl ?_
  refine ms_iadd (p' := 47) (by decide +kernel) rfl ?_
  refine ms_iast (p' := 48) (by decide +kernel) rfl (pn_k9 hp hw) (fun hj6 => ?_)
  refine ms_aload_n (k := 0) (p' := 49) (by decide +kernel) rfl rfl ?_
  refine ms_getr (idx := 18) (ci := 3) (k := 8) (q := 228) (p' := 52) (by decide +kernel) rfl (pn_k hp hw) (pn_r8 hp hw) (by omega) ?_
  refine ms_iload_n (k := 2) (p' := 53) (by decide +kernel) rfl rfl ?_
  refine ms_aload_n (k := 0) (p' := 54) (by decide +kernel) rfl rfl ?_
  refine ms_getr (idx := 18) (ci := 3) (k := 8) (q := 228) (p' := 57) (by decide +kernel) rfl (pn_k hp hw) (pn_r8 hp hw) (by omega) ?_
  refine ms_iload_n (k := 2) (p' := 58) (by decide +kernel) rfl rfl ?_
  refine ms_iald (p' := 59) (by decide +kernel) rfl (pn_k8 hp hw) (fun hj7 => ?_)
  refine ms_iload (k := 4) (p' := 61) (by decide +kernel) rfl rfl ?_
  refine ms_math2 (idx := 78) (k := 12) (x := 0) (q := 647) (v := (if ((mj_u (mj_u (mj_u (mj_u f (p + 5) (mj_w ((mj_w (x1 * 6)) + (f (p + 4) x1.toNat))).toNat x2) (p + 6) (mj_w ((mj_w (x1 * 6)) + (f (p + 4) x1.toNat))).toNat x3) (p + 7) (mj_w ((mj_w (x1 * 6)) + (f (p + 4) x1.toNat))).toNat x4) (p + 4) x1.toNat (mj_w (((mj_u (mj_u (mj_u f (p + 5) (mj_w ((mj_w (x1 * 6)) + (f (p + 4) x1.toNat))).toNat x2) (p + 6) (mj_w ((mj_w (x1 * 6)) + (f (p + 4) x1.toNat))).toNat x3) (p + 7) (mj_w ((mj_w (x1 * 6)) + (f (p + 4) x1.toNat))).toNat x4) (p + 4) x1.toNat) + 1))) (p + 3) x2.toNat) < x4 then x4 else ((mj_u (mj_u (mj_u (mj_u f (p + 5) (mj_w ((mj_w (x1 * 6)) + (f (p + 4) x1.toNat))).toNat x2) (p + 6) (mj_w ((mj_w (x1 * 6)) + (f (p + 4) x1.toNat))).toNat x3) (p + 7) (mj_w ((mj_w (x1 * 6)) + (f (p + 4) x1.toNat))).toNat x4) (p + 4) x1.toNat (mj_w (((mj_u (mj_u (mj_u f (p + 5) (mj_w ((mj_w (x1 * 6)) + (f (p + 4) x1.toNat))).toNat x2) (p + 6) (mj_w ((mj_w (x1 * 6)) + (f (p + 4) x1.toNat))).toNat x3) (p + 7) (mj_w ((mj_w (x1 * 6)) + (f (p + 4) x1.toNat))).toNat x4) (p + 4) x1.toNat) + 1))) (p + 3) x2.toNat))) (p' := 64) (by decide +kernel) (Or.inl ⟨rfl, rfl⟩) rfl rfl ?_
  refine ms_iast (p' := 65) (by decide +kernel) rfl (pn_k8 hp hw) (fun hj8 => ?_)
  exact ms_vret (by decide +kernel)
theorem c_X_edgeRules {sw : Bool} {w : mj_W} (hw : wk sw w) (f : mj_F) (x0 : Int)  : mj_call yX_edgeRules w f [.inl x0] = some (w, f, some (.inl (mj_w (8 + x0)))) := by
  show mj_run yX_edgeRules w f 0 [.inl x0] [] = _
  refine ms_bipush (n := 8) (v := 8) (p' := 2) (by decide +kernel) rfl ?_
  refine ms_iload_n (k := 0) (p' := 3) (by decide +kernel) rfl rfl ?_
  refine ms_iadd (p' := 4) (by decide +kernel) rfl ?_
  exact ms_iret (by decide +kernel)
theorem c_L_numberSet {sw : Bool} {w : mj_W} (hw : wk sw w) (f : mj_F) (p : Nat) (x1 : Int) (x2 : Int) (hp : pn p) : mj_call yL_numberSet w f [.inr (.inl p), .inl x1, .inl x2] = mj_run yL_numberSet w f 2 [.inr (.inl p), .inl x1, .inl x2, .inl 0] [] := by
  show mj_run yL_numberSet w f 0 [.inr (.inl p), .inl x1, .inl x2, .inr (.inr (.inr 0))] [] = _
  refine ms_iconst (n := 0) (v := 0) (p' := 1) (by decide +kernel) rfl ?_
  refine ms_istore_n (k := 3) (ls' := [.inr (.inl p), .inl x1, .inl x2, .inl 0]) (p' := 2) (by decide +kernel) rfl (Nat.le_of_ble_eq_true rfl) rfl ?_
  rfl
theorem l_L_numberSet_2 {sw : Bool} {w : mj_W} (hw : wk sw w) (f : mj_F) (p : Nat) (x1 : Int) (x2 : Int) (x3 : Int) (hp : pn p) : mj_run yL_numberSet w f 2 [.inr (.inl p), .inl x1, .inl x2, .inl x3] [] = mj_gd (0 ≤ x1 ∧ x1 < ((16 : Nat) : Int)) (if (f (p + 10) x1.toNat) ≤ x3 then some (w, f, some (.inl (-1))) else mj_gd (0 ≤ (mj_w ((mj_w (x1 * 4)) + x3)) ∧ (mj_w ((mj_w (x1 * 4)) + x3)) < ((64 : Nat) : Int)) (if ¬ (f (p + 11) (mj_w ((mj_w (x1 * 4)) + x3)).toNat) = x2 then mj_run yL_numberSet w f 2 [.inr (.inl p), .inl x1, .inl x2, .inl (mj_w (x3 + 1))] [] else mj_gd (0 ≤ (mj_w ((mj_w (x1 * 4)) + x3)) ∧ (mj_w ((mj_w (x1 * 4)) + x3)) < ((64 : Nat) : Int)) (some (w, f, some (.inl (f (p + 12) (mj_w ((mj_w (x1 * 4)) + x3)).toNat)))))) := by
  refine ms_iload_n (k := 3) (p' := 3) (by decide +kernel) rfl rfl ?_
  refine ms_aload_n (k := 0) (p' := 4) (by decide +kernel) rfl rfl ?_
  refine ms_getr (idx := 39) (ci := 3) (k := 15) (q := 261) (p' := 7) (by decide +kernel) rfl (pn_k hp hw) (pn_r15 hp hw) (by omega) ?_
  refine ms_iload_n (k := 1) (p' := 8) (by decide +kernel) rfl rfl ?_
  refine ms_iald (p' := 9) (by decide +kernel) rfl (pn_k15 hp hw) (fun hj1 => ?_)
  refine ms_icmp_ge (off := 34) (t := 43) (p' := 12) (by decide +kernel) rfl (fun hc => ?_) (fun hc => ?_)
  · refine ms_iconst (n := (-1)) (v := (-1)) (p' := 44) (by decide +kernel) rfl ?_
    exact ms_iret (by decide +kernel)
  · refine ms_aload_n (k := 0) (p' := 13) (by decide +kernel) rfl rfl ?_
    refine ms_getr (idx := 42) (ci := 3) (k := 16) (q := 265) (p' := 16) (by decide +kernel) rfl (pn_k hp hw) (pn_r16 hp hw) (by omega) ?_
    refine ms_iload_n (k := 1) (p' := 17) (by decide +kernel) rfl rfl ?_
    refine ms_iconst (n := 4) (v := 4) (p' := 18) (by decide +kernel) rfl ?_
    refine ms_imul (p' := 19) (by decide +kernel) rfl ?_
    refine ms_iload_n (k := 3) (p' := 20) (by decide +kernel) rfl rfl ?_
    refine ms_iadd (p' := 21) (by decide +kernel) rfl ?_
    refine ms_iald (p' := 22) (by decide +kernel) rfl (pn_k16 hp hw) (fun hj2 => ?_)
    refine ms_iload_n (k := 2) (p' := 23) (by decide +kernel) rfl rfl ?_
    refine ms_icmp_ne (off := 14) (t := 37) (p' := 26) (by decide +kernel) rfl (fun hc => ?_) (fun hc => ?_)
    · refine ms_iinc (k := 3) (n := 1) (ls' := [.inr (.inl p), .inl x1, .inl x2, .inl (mj_w (x3 + 1))]) (p' := 40) (by decide +kernel) rfl rfl rfl ?_
      refine ms_goto (off := (-38)) (p' := 2) (by decide +kernel) ?_
      rfl
    · refine ms_aload_n (k := 0) (p' := 27) (by decide +kernel) rfl rfl ?_
      refine ms_getr (idx := 45) (ci := 3) (k := 17) (q := 269) (p' := 30) (by decide +kernel) rfl (pn_k hp hw) (pn_r17 hp hw) (by omega) ?_
      refine ms_iload_n (k := 1) (p' := 31) (by decide +kernel) rfl rfl ?_
      refine ms_iconst (n := 4) (v := 4) (p' := 32) (by decide +kernel) rfl ?_
      refine ms_imul (p' := 33) (by decide +kernel) rfl ?_
      refine ms_iload_n (k := 3) (p' := 34) (by decide +kernel) rfl rfl ?_
      refine ms_iadd (p' := 35) (by decide +kernel) rfl ?_
      refine ms_iald (p' := 36) (by decide +kernel) rfl (pn_k17 hp hw) (fun hj3 => ?_)
      exact ms_iret (by decide +kernel)
theorem c_L_addSet {sw : Bool} {w : mj_W} (hw : wk sw w) (f : mj_F) (p : Nat) (x1 : Int) (x2 : Int) (x3 : Int) (hp : pn p) : mj_call yL_addSet w f [.inr (.inl p), .inl x1, .inl x2, .inl x3] = mj_gd (0 ≤ x1 ∧ x1 < ((16 : Nat) : Int)) (mj_gd (0 ≤ (mj_w ((mj_w (x1 * 4)) + (f (p + 10) x1.toNat))) ∧ (mj_w ((mj_w (x1 * 4)) + (f (p + 10) x1.toNat))) < ((64 : Nat) : Int)) (mj_gd (0 ≤ (mj_w ((mj_w (x1 * 4)) + (f (p + 10) x1.toNat))) ∧ (mj_w ((mj_w (x1 * 4)) + (f (p + 10) x1.toNat))) < ((64 : Nat) : Int)) (mj_gd (0 ≤ x1 ∧ x1 < ((16 : Nat) : Int)) (mj_gd (0 ≤ x1 ∧ x1 < ((16 : Nat) : Int)) (mj_gd (0 ≤ x2 ∧ x2 < ((4 : Nat) : Int)) (mj_gd (0 ≤ x2 ∧ x2 < ((4 : Nat) : Int)) (some (w, (mj_u (mj_u (mj_u (mj_u f (p + 11) (mj_w ((mj_w (x1 * 4)) + (f (p + 10) x1.toNat))).toNat x2) (p + 12) (mj_w ((mj_w (x1 * 4)) + (f (p + 10) x1.toNat))).toNat x3) (p + 10) x1.toNat (mj_w (((mj_u (mj_u f (p + 11) (mj_w ((mj_w (x1 * 4)) + (f (p + 10) x1.toNat))).toNat x2) (p + 12) (mj_w ((mj_w (x1 * 4)) + (f (p + 10) x1.toNat))).toNat x3) (p + 10) x1.toNat) + 1))) (p + 3) x2.toNat (if ((mj_u (mj_u (mj_u f (p + 11) (mj_w ((mj_w (x1 * 4)) + (f (p + 10) x1.toNat))).toNat x2) (p + 12) (mj_w ((mj_w (x1 * 4)) + (f (p + 10) x1.toNat))).toNat x3) (p + 10) x1.toNat (mj_w (((mj_u (mj_u f (p + 11) (mj_w ((mj_w (x1 * 4)) + (f (p + 10) x1.toNat))).toNat x2) (p + 12) (mj_w ((mj_w (x1 * 4)) + (f (p + 10) x1.toNat))).toNat x3) (p + 10) x1.toNat) + 1))) (p + 3) x2.toNat) < x3 then x3 else ((mj_u (mj_u (mj_u f (p + 11) (mj_w ((mj_w (x1 * 4)) + (f (p + 10) x1.toNat))).toNat x2) (p + 12) (mj_w ((mj_w (x1 * 4)) + (f (p + 10) x1.toNat))).toNat x3) (p + 10) x1.toNat (mj_w (((mj_u (mj_u f (p + 11) (mj_w ((mj_w (x1 * 4)) + (f (p + 10) x1.toNat))).toNat x2) (p + 12) (mj_w ((mj_w (x1 * 4)) + (f (p + 10) x1.toNat))).toNat x3) (p + 10) x1.toNat) + 1))) (p + 3) x2.toNat))), none)))))))) := by
  show mj_run yL_addSet w f 0 [.inr (.inl p), .inl x1, .inl x2, .inl x3, .inr (.inr (.inr 0))] [] = _
  refine ms_iload_n (k := 1) (p' := 1) (by decide +kernel) rfl rfl ?_
  refine ms_iconst (n := 4) (v := 4) (p' := 2) (by decide +kernel) rfl ?_
  refine ms_imul (p' := 3) (by decide +kernel) rfl ?_
  refine ms_aload_n (k := 0) (p' := 4) (by decide +kernel) rfl rfl ?_
  refine ms_getr (idx := 39) (ci := 3) (k := 15) (q := 261) (p' := 7) (by decide +kernel) rfl (pn_k hp hw) (pn_r15 hp hw) (by omega) ?_
  refine ms_iload_n (k := 1) (p' := 8) (by decide +kernel) rfl rfl ?_
  refine ms_iald (p' := 9) (by decide +kernel) rfl (pn_k15 hp hw) (fun hj1 => ?_)
  refine ms_iadd (p' := 10) (by decide +kernel) rfl ?_
  refine ms_istore (k := 4) (ls' := [.inr (.inl p), .inl x1, .inl x2, .inl x3, .inl (mj_w ((mj_w (x1 * 4)) + (f (p + 10) x1.toNat)))]) (p' := 12) (by decide +kernel) rfl (Nat.le_of_ble_eq_true rfl) rfl ?_
  refine ms_aload_n (k := 0) (p' := 13) (by decide +kernel) rfl rfl ?_
  refine ms_getr (idx := 42) (ci := 3) (k := 16) (q := 265) (p' := 16) (by decide +kernel) rfl (pn_k hp hw) (pn_r16 hp hw) (by omega) ?_
  refine ms_iload (k := 4) (p' := 18) (by decide +kernel) rfl rfl ?_
  refine ms_iload_n (k := 2) (p' := 19) (by decide +kernel) rfl rfl ?_
  refine ms_iast (p' := 20) (by decide +kernel) rfl (pn_k16 hp hw) (fun hj2 => ?_)
  refine ms_aload_n (k := 0) (p' := 21) (by decide +kernel) rfl rfl ?_
  refine ms_getr (idx := 45) (ci := 3) (k := 17) (q := 269) (p' := 24) (by decide +kernel) rfl (pn_k hp hw) (pn_r17 hp hw) (by omega) ?_
  refine ms_iload (k := 4) (p' := 26) (by decide +kernel) rfl rfl ?_
  refine ms_iload_n (k := 3) (p' := 27) (by decide +kernel) rfl rfl ?_
  refine ms_iast (p' := 28) (by decide +kernel) rfl (pn_k17 hp hw) (fun hj3 => ?_)
  refine ms_aload_n (k := 0) (p' := 29) (by decide +kernel) rfl rfl ?_
  refine ms_getr (idx := 39) (ci := 3) (k := 15) (q := 261) (p' := 32) (by decide +kernel) rfl (pn_k hp hw) (pn_r15 hp hw) (by omega) ?_
  refine ms_iload_n (k := 1) (p' := 33) (by decide +kernel) rfl rfl ?_
  refine ms_dup2 (p' := 34) (by decide +kernel) rfl ?_
  refine ms_iald (p' := 35) (by decide +kernel) rfl (pn_k15 hp hw) (fun hj4 => ?_)
  refine ms_iconst (n := 1) (v := 1) (p' := 36) (by decide +kernel) rfl ?_
  refine ms_iadd (p' := 37) (by decide +kernel) rfl ?_
  refine ms_iast (p' := 38) (by decide +kernel) rfl (pn_k15 hp hw) (fun hj5 => ?_)
  refine ms_aload_n (k := 0) (p' := 39) (by decide +kernel) rfl rfl ?_
  refine ms_getr (idx := 18) (ci := 3) (k := 8) (q := 228) (p' := 42) (by decide +kernel) rfl (pn_k hp hw) (pn_r8 hp hw) (by omega) ?_
  refine ms_iload_n (k := 2) (p' := 43) (by decide +kernel) rfl rfl ?_
  refine ms_aload_n (k := 0) (p' := 44) (by decide +kernel) rfl rfl ?_
  refine ms_getr (idx := 18) (ci := 3) (k := 8) (q := 228) (p' := 47) (by decide +kernel) rfl (pn_k hp hw) (pn_r8 hp hw) (by omega) ?_
  refine ms_iload_n (k := 2) (p' := 48) (by decide +kernel) rfl rfl ?_
  refine ms_iald (p' := 49) (by decide +kernel) rfl (pn_k8 hp hw) (fun hj6 => ?_)
  refine ms_iload_n (k := 3) (p' := 50) (by decide +kernel) rfl rfl ?_
  refine ms_math2 (idx := 78) (k := 12) (x := 0) (q := 647) (v := (if ((mj_u (mj_u (mj_u f (p + 11) (mj_w ((mj_w (x1 * 4)) + (f (p + 10) x1.toNat))).toNat x2) (p + 12) (mj_w ((mj_w (x1 * 4)) + (f (p + 10) x1.toNat))).toNat x3) (p + 10) x1.toNat (mj_w (((mj_u (mj_u f (p + 11) (mj_w ((mj_w (x1 * 4)) + (f (p + 10) x1.toNat))).toNat x2) (p + 12) (mj_w ((mj_w (x1 * 4)) + (f (p + 10) x1.toNat))).toNat x3) (p + 10) x1.toNat) + 1))) (p + 3) x2.toNat) < x3 then x3 else ((mj_u (mj_u (mj_u f (p + 11) (mj_w ((mj_w (x1 * 4)) + (f (p + 10) x1.toNat))).toNat x2) (p + 12) (mj_w ((mj_w (x1 * 4)) + (f (p + 10) x1.toNat))).toNat x3) (p + 10) x1.toNat (mj_w (((mj_u (mj_u f (p + 11) (mj_w ((mj_w (x1 * 4)) + (f (p + 10) x1.toNat))).toNat x2) (p + 12) (mj_w ((mj_w (x1 * 4)) + (f (p + 10) x1.toNat))).toNat x3) (p + 10) x1.toNat) + 1))) (p + 3) x2.toNat))) (p' := 53) (by decide +kernel) (Or.inl ⟨rfl, rfl⟩) rfl rfl ?_
  refine ms_iast (p' := 54) (by decide +kernel) rfl (pn_k8 hp hw) (fun hj7 => ?_)
  exact ms_vret (by decide +kernel)
theorem c_Z_layZero {sw : Bool} {w : mj_W} (hw : wk sw w) (f : mj_F) (z : Nat) (x1 : Int) (hz : zn z = true) : mj_call yZ_layZero w f [.inr (.inl z), .inl x1] = mj_bu (mj_call yA_fill w (mj_u (mj_u f z 1 x1) z 2 0) [.inr (.inl (z + 1)), .inl 1]) (fun f1 => some (w, f1, none)) := by
  show mj_run yZ_layZero w f 0 [.inr (.inl z), .inl x1] [] = _
  refine ms_aload_n (k := 0) (p' := 1) (by decide +kernel) rfl rfl ?_
  refine ms_iload_n (k := 1) (p' := 2) (by decide +kernel) rfl rfl ?_
  refine ms_puti (idx := 15) (ci := 7) (k := 1) (q := 360) (p' := 5) (by decide +kernel) rfl (zn_k hz hw) ?_
  refine ms_aload_n (k := 0) (p' := 6) (by decide +kernel) rfl rfl ?_
  refine ms_iconst (n := 0) (v := 0) (p' := 7) (by decide +kernel) rfl ?_
  refine Eq.trans (ms_putz (idx := 19) (ci := 7) (k := 2) (q := 362) (p' := 10) (by decide +kernel) rfl (zn_k hz hw) (fun _ => ?_)) (mj_gd_pos (by decide) _)
  refine ms_aload_n (k := 0) (p' := 11) (by decide +kernel) rfl rfl ?_
  refine ms_getr (idx := 9) (ci := 7) (k := 0) (q := 359) (p' := 14) (by decide +kernel) rfl (zn_k hz hw) (zn_r hz hw) (nz1 _) ?_
  refine ms_iconst (n := 1) (v := 1) (p' := 15) (by decide +kernel) rfl ?_
  refine ms_stat_u (idx := 23) (cy := yA_fill) (n := 2) (as := [.inr (.inl (z + 1)), .inl 1]) (rest := []) (p' := 18) (by decide +kernel) rfl rfl rfl rfl rfl (fun f1 => ?_)
  exact ms_vret (by decide +kernel)
theorem c_H_forgetAll {sw : Bool} {w : mj_W} (hw : wk sw w) (f : mj_F)   : mj_call yH_forgetAll w f [.inr (.inl 178)] = some (w, (mj_u (mj_u f 178 4 0) 178 5 0), none) := by
  show mj_run yH_forgetAll w f 0 [.inr (.inl 178)] [] = _
  refine ms_aload_n (k := 0) (p' := 1) (by decide +kernel) rfl rfl ?_
  refine ms_iconst (n := 0) (v := 0) (p' := 2) (by decide +kernel) rfl ?_
  refine ms_puti (idx := 27) (ci := 1) (k := 4) (q := 502) (p' := 5) (by decide +kernel) rfl (k_178 hw) ?_
  refine ms_aload_n (k := 0) (p' := 6) (by decide +kernel) rfl rfl ?_
  refine ms_iconst (n := 0) (v := 0) (p' := 7) (by decide +kernel) rfl ?_
  refine ms_puti (idx := 31) (ci := 1) (k := 5) (q := 503) (p' := 10) (by decide +kernel) rfl (k_178 hw) ?_
  exact ms_vret (by decide +kernel)
theorem c_X_lessThan {sw : Bool} {w : mj_W} (hw : wk sw w) (f : mj_F) (x0 : Int)  : mj_call yX_lessThan w f [.inl x0] = some (w, f, some (.inl (mj_w (2 * x0)))) := by
  show mj_run yX_lessThan w f 0 [.inl x0] [] = _
  refine ms_iconst (n := 2) (v := 2) (p' := 1) (by decide +kernel) rfl ?_
  refine ms_iload_n (k := 0) (p' := 2) (by decide +kernel) rfl rfl ?_
  refine ms_imul (p' := 3) (by decide +kernel) rfl ?_
  exact ms_iret (by decide +kernel)
theorem c_X_atMost {sw : Bool} {w : mj_W} (hw : wk sw w) (f : mj_F) (x0 : Int)  : mj_call yX_atMost w f [.inl x0] = some (w, f, some (.inl (mj_w ((mj_w (2 * x0)) + 1)))) := by
  show mj_run yX_atMost w f 0 [.inl x0] [] = _
  refine ms_iconst (n := 2) (v := 2) (p' := 1) (by decide +kernel) rfl ?_
  refine ms_iload_n (k := 0) (p' := 2) (by decide +kernel) rfl rfl ?_
  refine ms_imul (p' := 3) (by decide +kernel) rfl ?_
  refine ms_iconst (n := 1) (v := 1) (p' := 4) (by decide +kernel) rfl ?_
  refine ms_iadd (p' := 5) (by decide +kernel) rfl ?_
  exact ms_iret (by decide +kernel)
theorem c_X_upperOf {sw : Bool} {w : mj_W} (hw : wk sw w) (f : mj_F) (x0 : Int) (x1 : Int)  : mj_call yX_upperOf w f [.inl x0, .inl x1] = if ¬ x0 = 0 then if x0 = 1 then mj_bi (mj_call yX_atMost w f [.inl x1]) (fun f1 v2 => some (w, f1, some (.inl v2))) else if ¬ x0 = 2 then some (w, f, some (.inl 268435456)) else mj_bi (mj_call yX_atMost w f [.inl x1]) (fun f3 v4 => some (w, f3, some (.inl v4))) else mj_bi (mj_call yX_lessThan w f [.inl x1]) (fun f5 v6 => some (w, f5, some (.inl v6))) := by
  show mj_run yX_upperOf w f 0 [.inl x0, .inl x1] [] = _
  refine ms_iload_n (k := 0) (p' := 1) (by decide +kernel) rfl rfl ?_
  refine ms_if_ne (off := 8) (t := 9) (p' := 4) (by decide +kernel) rfl (fun hc => ?_) (fun hc => ?_)
  · refine ms_iload_n (k := 0) (p' := 10) (by decide +kernel) rfl rfl ?_
    refine ms_iconst (n := 1) (v := 1) (p' := 11) (by decide +kernel) rfl ?_
    refine ms_icmp_eq (off := 8) (t := 19) (p' := 14) (by decide +kernel) rfl (fun hc => ?_) (fun hc => ?_)
    · refine ms_iload_n (k := 1) (p' := 20) (by decide +kernel) rfl rfl ?_
      refine ms_stat_i (idx := 291) (cy := yX_atMost) (n := 1) (as := [.inl x1]) (rest := []) (p' := 23) (by decide +kernel) rfl rfl rfl rfl rfl (fun f1 v2 => ?_)
      refine ms_goto (off := 6) (p' := 29) (by decide +kernel) ?_
      exact ms_iret (by decide +kernel)
    · refine ms_iload_n (k := 0) (p' := 15) (by decide +kernel) rfl rfl ?_
      refine ms_iconst (n := 2) (v := 2) (p' := 16) (by decide +kernel) rfl ?_
      refine ms_icmp_ne (off := 10) (t := 26) (p' := 19) (by decide +kernel) rfl (fun hc => ?_) (fun hc => ?_)
      · refine ms_ldc_w (idx := 437) (v := 268435456) (p' := 29) (by decide +kernel) rfl ?_
        exact ms_iret (by decide +kernel)
      · refine ms_iload_n (k := 1) (p' := 20) (by decide +kernel) rfl rfl ?_
        refine ms_stat_i (idx := 291) (cy := yX_atMost) (n := 1) (as := [.inl x1]) (rest := []) (p' := 23) (by decide +kernel) rfl rfl rfl rfl rfl (fun f3 v4 => ?_)
        refine ms_goto (off := 6) (p' := 29) (by decide +kernel) ?_
        exact ms_iret (by decide +kernel)
  · refine ms_iload_n (k := 1) (p' := 5) (by decide +kernel) rfl rfl ?_
    refine ms_stat_i (idx := 444) (cy := yX_lessThan) (n := 1) (as := [.inl x1]) (rest := []) (p' := 8) (by decide +kernel) rfl rfl rfl rfl rfl (fun f5 v6 => ?_)
    exact ms_iret (by decide +kernel)
theorem c_Z_cell {sw : Bool} {w : mj_W} (hw : wk sw w) (f : mj_F) (z : Nat) (x1 : Int) (x2 : Int) (hz : zn z = true) : mj_call yZ_cell w f [.inr (.inl z), .inl x1, .inl x2] = mj_gd (0 ≤ (mj_w ((mj_w (x1 * 6)) + x2)) ∧ (mj_w ((mj_w (x1 * 6)) + x2)) < ((36 : Nat) : Int)) (some (w, f, some (.inl (f (z + 1) (mj_w ((mj_w (x1 * 6)) + x2)).toNat)))) := by
  show mj_run yZ_cell w f 0 [.inr (.inl z), .inl x1, .inl x2] [] = _
  refine ms_aload_n (k := 0) (p' := 1) (by decide +kernel) rfl rfl ?_
  refine ms_getr (idx := 9) (ci := 7) (k := 0) (q := 359) (p' := 4) (by decide +kernel) rfl (zn_k hz hw) (zn_r hz hw) (nz1 _) ?_
  refine ms_iload_n (k := 1) (p' := 5) (by decide +kernel) rfl rfl ?_
  refine ms_bipush (n := 6) (v := 6) (p' := 7) (by decide +kernel) rfl ?_
  refine ms_imul (p' := 8) (by decide +kernel) rfl ?_
  refine ms_iload_n (k := 2) (p' := 9) (by decide +kernel) rfl rfl ?_
  refine ms_iadd (p' := 10) (by decide +kernel) rfl ?_
  refine ms_iald (p' := 11) (by decide +kernel) rfl (zn_c hz hw) (fun hj1 => ?_)
  exact ms_iret (by decide +kernel)
theorem c_X_sumOf {sw : Bool} {w : mj_W} (hw : wk sw w) (f : mj_F) (x0 : Int) (x1 : Int)  : mj_call yX_sumOf w f [.inl x0, .inl x1] = if 268435456 ≤ x0 then some (w, f, some (.inl 268435456)) else if x1 < 268435456 then some (w, f, some (.inl (mj_w ((mj_w (x0 + x1)) - (mj_and (mj_or x0 x1) 1))))) else some (w, f, some (.inl 268435456)) := by
  show mj_run yX_sumOf w f 0 [.inl x0, .inl x1] [] = _
  refine ms_iload_n (k := 0) (p' := 1) (by decide +kernel) rfl rfl ?_
  refine ms_ldc_w (idx := 437) (v := 268435456) (p' := 4) (by decide +kernel) rfl ?_
  refine ms_icmp_ge (off := 10) (t := 14) (p' := 7) (by decide +kernel) rfl (fun hc => ?_) (fun hc => ?_)
  · refine ms_ldc_w (idx := 437) (v := 268435456) (p' := 17) (by decide +kernel) rfl ?_
    exact ms_iret (by decide +kernel)
  · refine ms_iload_n (k := 1) (p' := 8) (by decide +kernel) rfl rfl ?_
    refine ms_ldc_w (idx := 437) (v := 268435456) (p' := 11) (by decide +kernel) rfl ?_
    refine ms_icmp_lt (off := 7) (t := 18) (p' := 14) (by decide +kernel) rfl (fun hc => ?_) (fun hc => ?_)
    · refine ms_iload_n (k := 0) (p' := 19) (by decide +kernel) rfl rfl ?_
      refine ms_iload_n (k := 1) (p' := 20) (by decide +kernel) rfl rfl ?_
      refine ms_iadd (p' := 21) (by decide +kernel) rfl ?_
      refine ms_iload_n (k := 0) (p' := 22) (by decide +kernel) rfl rfl ?_
      refine ms_iload_n (k := 1) (p' := 23) (by decide +kernel) rfl rfl ?_
      refine ms_ior (p' := 24) (by decide +kernel) rfl ?_
      refine ms_iconst (n := 1) (v := 1) (p' := 25) (by decide +kernel) rfl ?_
      refine ms_iand (p' := 26) (by decide +kernel) rfl ?_
      refine ms_isub (p' := 27) (by decide +kernel) rfl ?_
      exact ms_iret (by decide +kernel)
    · refine ms_ldc_w (idx := 437) (v := 268435456) (p' := 17) (by decide +kernel) rfl ?_
      exact ms_iret (by decide +kernel)
theorem c_Z_put {sw : Bool} {w : mj_W} (hw : wk sw w) (f : mj_F) (z : Nat) (x1 : Int) (x2 : Int) (x3 : Int) (hz : zn z = true) : mj_call yZ_put w f [.inr (.inl z), .inl x1, .inl x2, .inl x3] = mj_gd (0 ≤ (mj_w ((mj_w (x1 * 6)) + x2)) ∧ (mj_w ((mj_w (x1 * 6)) + x2)) < ((36 : Nat) : Int)) (some (w, (mj_u f (z + 1) (mj_w ((mj_w (x1 * 6)) + x2)).toNat x3), none)) := by
  show mj_run yZ_put w f 0 [.inr (.inl z), .inl x1, .inl x2, .inl x3] [] = _
  refine ms_aload_n (k := 0) (p' := 1) (by decide +kernel) rfl rfl ?_
  refine ms_getr (idx := 9) (ci := 7) (k := 0) (q := 359) (p' := 4) (by decide +kernel) rfl (zn_k hz hw) (zn_r hz hw) (nz1 _) ?_
  refine ms_iload_n (k := 1) (p' := 5) (by decide +kernel) rfl rfl ?_
  refine ms_bipush (n := 6) (v := 6) (p' := 7) (by decide +kernel) rfl ?_
  refine ms_imul (p' := 8) (by decide +kernel) rfl ?_
  refine ms_iload_n (k := 2) (p' := 9) (by decide +kernel) rfl rfl ?_
  refine ms_iadd (p' := 10) (by decide +kernel) rfl ?_
  refine ms_iload_n (k := 3) (p' := 11) (by decide +kernel) rfl rfl ?_
  refine ms_iast (p' := 12) (by decide +kernel) rfl (zn_c hz hw) (fun hj1 => ?_)
  exact ms_vret (by decide +kernel)
theorem c_Z_tighten {sw : Bool} {w : mj_W} (hw : wk sw w) (f : mj_F) (z : Nat) (x1 : Int) (x2 : Int) (x3 : Int) (hz : zn z = true) : mj_call yZ_tighten w f [.inr (.inl z), .inl x1, .inl x2, .inl x3] = if ¬ (f z 2) = 0 then some (w, f, none) else mj_bi (mj_call yZ_cell w f [.inr (.inl z), .inl x1, .inl x2]) (fun f1 v2 => if x3 < v2 then mj_bi (mj_call yZ_cell w f1 [.inr (.inl z), .inl x2, .inl x1]) (fun f3 v4 => mj_bi (mj_call yX_sumOf w f3 [.inl x3, .inl v4]) (fun f5 v6 => if 1 ≤ v6 then mj_run yZ_tighten w f5 41 [.inr (.inl z), .inl x1, .inl x2, .inl x3, .inl 0, .inr (.inr (.inr 0)), .inr (.inr (.inr 0))] [] else some (w, (mj_u f5 z 2 1), none))) else some (w, f1, none)) := by
  show mj_run yZ_tighten w f 0 [.inr (.inl z), .inl x1, .inl x2, .inl x3, .inr (.inr (.inr 0)), .inr (.inr (.inr 0)), .inr (.inr (.inr 0))] [] = _
  refine ms_aload_n (k := 0) (p' := 1) (by decide +kernel) rfl rfl ?_
  refine ms_geti (idx := 19) (ci := 7) (k := 2) (q := 362) (p' := 4) (by decide +kernel) rfl (zn_k hz hw) ?_
  refine ms_if_ne (off := 13) (t := 17) (p' := 7) (by decide +kernel) rfl (fun hc => ?_) (fun hc => ?_)
  · exact ms_vret (by decide +kernel)
  · refine ms_iload_n (k := 3) (p' := 8) (by decide +kernel) rfl rfl ?_
    refine ms_aload_n (k := 0) (p' := 9) (by decide +kernel) rfl rfl ?_
    refine ms_iload_n (k := 1) (p' := 10) (by decide +kernel) rfl rfl ?_
    refine ms_iload_n (k := 2) (p' := 11) (by decide +kernel) rfl rfl ?_
    refine ms_virt_i (idx := 29) (cy := yZ_cell) (n := 2) (a := z) (as := [.inl x1, .inl x2]) (rest := [.inl x3]) (p' := 14) (by decide +kernel) rfl rfl rfl rfl (zn_k hz hw) rfl (fun f1 v2 => ?_)
    refine ms_icmp_lt (off := 4) (t := 18) (p' := 17) (by decide +kernel) rfl (fun hc => ?_) (fun hc => ?_)
    · refine ms_iload_n (k := 3) (p' := 19) (by decide +kernel) rfl rfl ?_
      refine ms_aload_n (k := 0) (p' := 20) (by decide +kernel) rfl rfl ?_
      refine ms_iload_n (k := 2) (p' := 21) (by decide +kernel) rfl rfl ?_
      refine ms_iload_n (k := 1) (p' := 22) (by decide +kernel) rfl rfl ?_
      refine ms_virt_i (idx := 29) (cy := yZ_cell) (n := 2) (a := z) (as := [.inl x2, .inl x1]) (rest := [.inl x3]) (p' := 25) (by decide +kernel) rfl rfl rfl rfl (zn_k hz hw) rfl (fun f3 v4 => ?_)
      refine ms_stat_i (idx := 71) (cy := yX_sumOf) (n := 2) (as := [.inl x3, .inl v4]) (rest := []) (p' := 28) (by decide +kernel) rfl rfl rfl rfl rfl (fun f5 v6 => ?_)
      refine ms_iconst (n := 1) (v := 1) (p' := 29) (by decide +kernel) rfl ?_
      refine ms_icmp_ge (off := 9) (t := 38) (p' := 32) (by decide +kernel) rfl (fun hc => ?_) (fun hc => ?_)
      · refine ms_iconst (n := 0) (v := 0) (p' := 39) (by decide +kernel) rfl ?_
        refine ms_istore (k := 4) (ls' := [.inr (.inl z), .inl x1, .inl x2, .inl x3, .inl 0, .inr (.inr (.inr 0)), .inr (.inr (.inr 0))]) (p' := 41) (by decide +kernel) rfl (Nat.le_of_ble_eq_true rfl) rfl ?_
        rfl
      · refine ms_aload_n (k := 0) (p' := 33) (by decide +kernel) rfl rfl ?_
        refine ms_iconst (n := 1) (v := 1) (p' := 34) (by decide +kernel) rfl ?_
        refine Eq.trans (ms_putz (idx := 19) (ci := 7) (k := 2) (q := 362) (p' := 37) (by decide +kernel) rfl (zn_k hz hw) (fun _ => ?_)) (mj_gd_pos (by decide) _)
        exact ms_vret (by decide +kernel)
    · exact ms_vret (by decide +kernel)
theorem l_Z_tighten_41 {sw : Bool} {w : mj_W} (hw : wk sw w) (f : mj_F) (z : Nat) (x1 : Int) (x2 : Int) (x3 : Int) (x4 : Int) (u5 : mj_V) (u6 : mj_V) (hz : zn z = true) : mj_run yZ_tighten w f 41 [.inr (.inl z), .inl x1, .inl x2, .inl x3, .inl x4, u5, u6] [] = if (f z 1) ≤ x4 then some (w, f, none) else mj_bi (mj_call yZ_cell w f [.inr (.inl z), .inl x4, .inl x1]) (fun f7 v8 => mj_bi (mj_call yX_sumOf w f7 [.inl v8, .inl x3]) (fun f9 v10 => mj_run yZ_tighten w f9 66 [.inr (.inl z), .inl x1, .inl x2, .inl x3, .inl x4, .inl v10, .inl 0] [])) := by
  refine ms_iload (k := 4) (p' := 43) (by decide +kernel) rfl rfl ?_
  refine ms_aload_n (k := 0) (p' := 44) (by decide +kernel) rfl rfl ?_
  refine ms_geti (idx := 15) (ci := 7) (k := 1) (q := 360) (p' := 47) (by decide +kernel) rfl (zn_k hz hw) ?_
  refine ms_icmp_ge (off := 78) (t := 125) (p' := 50) (by decide +kernel) rfl (fun hc => ?_) (fun hc => ?_)
  · exact ms_vret (by decide +kernel)
  · refine ms_aload_n (k := 0) (p' := 51) (by decide +kernel) rfl rfl ?_
    refine ms_iload (k := 4) (p' := 53) (by decide +kernel) rfl rfl ?_
    refine ms_iload_n (k := 1) (p' := 54) (by decide +kernel) rfl rfl ?_
    refine ms_virt_i (idx := 29) (cy := yZ_cell) (n := 2) (a := z) (as := [.inl x4, .inl x1]) (rest := []) (p' := 57) (by decide +kernel) rfl rfl rfl rfl (zn_k hz hw) rfl (fun f7 v8 => ?_)
    refine ms_iload_n (k := 3) (p' := 58) (by decide +kernel) rfl rfl ?_
    refine ms_stat_i (idx := 71) (cy := yX_sumOf) (n := 2) (as := [.inl v8, .inl x3]) (rest := []) (p' := 61) (by decide +kernel) rfl rfl rfl rfl rfl (fun f9 v10 => ?_)
    refine ms_istore (k := 5) (ls' := [.inr (.inl z), .inl x1, .inl x2, .inl x3, .inl x4, .inl v10, u6]) (p' := 63) (by decide +kernel) rfl (Nat.le_of_ble_eq_true rfl) rfl ?_
    refine ms_iconst (n := 0) (v := 0) (p' := 64) (by decide +kernel) rfl ?_
    refine ms_istore (k := 6) (ls' := [.inr (.inl z), .inl x1, .inl x2, .inl x3, .inl x4, .inl v10, .inl 0]) (p' := 66) (by decide +kernel) rfl (Nat.le_of_ble_eq_true rfl) rfl ?_
    rfl
theorem l_Z_tighten_66 {sw : Bool} {w : mj_W} (hw : wk sw w) (f : mj_F) (z : Nat) (x1 : Int) (x2 : Int) (x3 : Int) (x4 : Int) (x5 : Int) (x6 : Int) (hz : zn z = true) : mj_run yZ_tighten w f 66 [.inr (.inl z), .inl x1, .inl x2, .inl x3, .inl x4, .inl x5, .inl x6] [] = if (f z 1) ≤ x6 then mj_run yZ_tighten w f 41 [.inr (.inl z), .inl x1, .inl x2, .inl x3, .inl (mj_w (x4 + 1)), .inl x5, .inl x6] [] else if 268435456 ≤ x5 then mj_run yZ_tighten w f 41 [.inr (.inl z), .inl x1, .inl x2, .inl x3, .inl (mj_w (x4 + 1)), .inl x5, .inl x6] [] else mj_bi (mj_call yZ_cell w f [.inr (.inl z), .inl x4, .inl x6]) (fun f11 v12 => mj_bi (mj_call yZ_cell w f11 [.inr (.inl z), .inl x2, .inl x6]) (fun f13 v14 => mj_bi (mj_call yX_sumOf w f13 [.inl x5, .inl v14]) (fun f15 v16 => mj_bu (mj_call yZ_put w f15 [.inr (.inl z), .inl x4, .inl x6, .inl (if v16 < v12 then v16 else v12)]) (fun f17 => mj_run yZ_tighten w f17 66 [.inr (.inl z), .inl x1, .inl x2, .inl x3, .inl x4, .inl x5, .inl (mj_w (x6 + 1))] [])))) := by
  refine ms_iload (k := 6) (p' := 68) (by decide +kernel) rfl rfl ?_
  refine ms_aload_n (k := 0) (p' := 69) (by decide +kernel) rfl rfl ?_
  refine ms_geti (idx := 15) (ci := 7) (k := 1) (q := 360) (p' := 72) (by decide +kernel) rfl (zn_k hz hw) ?_
  refine ms_icmp_ge (off := 47) (t := 119) (p' := 75) (by decide +kernel) rfl (fun hc => ?_) (fun hc => ?_)
  · refine ms_iinc (k := 4) (n := 1) (ls' := [.inr (.inl z), .inl x1, .inl x2, .inl x3, .inl (mj_w (x4 + 1)), .inl x5, .inl x6]) (p' := 122) (by decide +kernel) rfl rfl rfl ?_
    refine ms_goto (off := (-81)) (p' := 41) (by decide +kernel) ?_
    rfl
  · refine ms_iload (k := 5) (p' := 77) (by decide +kernel) rfl rfl ?_
    refine ms_ldc (idx := 74) (v := 268435456) (p' := 79) (by decide +kernel) rfl ?_
    refine ms_icmp_ge (off := 40) (t := 119) (p' := 82) (by decide +kernel) rfl (fun hc => ?_) (fun hc => ?_)
    · refine ms_iinc (k := 4) (n := 1) (ls' := [.inr (.inl z), .inl x1, .inl x2, .inl x3, .inl (mj_w (x4 + 1)), .inl x5, .inl x6]) (p' := 122) (by decide +kernel) rfl rfl rfl ?_
      refine ms_goto (off := (-81)) (p' := 41) (by decide +kernel) ?_
      rfl
    · refine ms_aload_n (k := 0) (p' := 83) (by decide +kernel) rfl rfl ?_
      refine ms_iload (k := 4) (p' := 85) (by decide +kernel) rfl rfl ?_
      refine ms_iload (k := 6) (p' := 87) (by decide +kernel) rfl rfl ?_
      refine ms_aload_n (k := 0) (p' := 88) (by decide +kernel) rfl rfl ?_
      refine ms_iload (k := 4) (p' := 90) (by decide +kernel) rfl rfl ?_
      refine ms_iload (k := 6) (p' := 92) (by decide +kernel) rfl rfl ?_
      refine ms_virt_i (idx := 29) (cy := yZ_cell) (n := 2) (a := z) (as := [.inl x4, .inl x6]) (rest := [.inl x6, .inl x4, .inr (.inl z)]) (p' := 95) (by decide +kernel) rfl rfl rfl rfl (zn_k hz hw) rfl (fun f11 v12 => ?_)
      refine ms_iload (k := 5) (p' := 97) (by decide +kernel) rfl rfl ?_
      refine ms_aload_n (k := 0) (p' := 98) (by decide +kernel) rfl rfl ?_
      refine ms_iload_n (k := 2) (p' := 99) (by decide +kernel) rfl rfl ?_
      refine ms_iload (k := 6) (p' := 101) (by decide +kernel) rfl rfl ?_
      refine ms_virt_i (idx := 29) (cy := yZ_cell) (n := 2) (a := z) (as := [.inl x2, .inl x6]) (rest := [.inl x5, .inl v12, .inl x6, .inl x4, .inr (.inl z)]) (p' := 104) (by decide +kernel) rfl rfl rfl rfl (zn_k hz hw) rfl (fun f13 v14 => ?_)
      refine ms_stat_i (idx := 71) (cy := yX_sumOf) (n := 2) (as := [.inl x5, .inl v14]) (rest := [.inl v12, .inl x6, .inl x4, .inr (.inl z)]) (p' := 107) (by decide +kernel) rfl rfl rfl rfl rfl (fun f15 v16 => ?_)
      refine ms_math2 (idx := 75) (k := 13) (x := 0) (q := 725) (v := (if v16 < v12 then v16 else v12)) (p' := 110) (by decide +kernel) (Or.inr ⟨rfl, rfl⟩) rfl rfl ?_
      refine ms_virt_u (idx := 54) (cy := yZ_put) (n := 3) (a := z) (as := [.inl x4, .inl x6, .inl (if v16 < v12 then v16 else v12)]) (rest := []) (p' := 113) (by decide +kernel) rfl rfl rfl rfl (zn_k hz hw) rfl (fun f17 => ?_)
      refine ms_iinc (k := 6) (n := 1) (ls' := [.inr (.inl z), .inl x1, .inl x2, .inl x3, .inl x4, .inl x5, .inl (mj_w (x6 + 1))]) (p' := 116) (by decide +kernel) rfl rfl rfl ?_
      refine ms_goto (off := (-50)) (p' := 66) (by decide +kernel) ?_
      rfl
theorem c_X_lowerOf {sw : Bool} {w : mj_W} (hw : wk sw w) (f : mj_F) (x0 : Int) (x1 : Int)  : mj_call yX_lowerOf w f [.inl x0, .inl x1] = if ¬ x0 = 4 then if x0 = 3 then mj_bi (mj_call yX_atMost w f [.inl (mj_w (-x1))]) (fun f1 v2 => some (w, f1, some (.inl v2))) else if ¬ x0 = 2 then some (w, f, some (.inl 268435456)) else mj_bi (mj_call yX_atMost w f [.inl (mj_w (-x1))]) (fun f3 v4 => some (w, f3, some (.inl v4))) else mj_bi (mj_call yX_lessThan w f [.inl (mj_w (-x1))]) (fun f5 v6 => some (w, f5, some (.inl v6))) := by
  show mj_run yX_lowerOf w f 0 [.inl x0, .inl x1] [] = _
  refine ms_iload_n (k := 0) (p' := 1) (by decide +kernel) rfl rfl ?_
  refine ms_iconst (n := 4) (v := 4) (p' := 2) (by decide +kernel) rfl ?_
  refine ms_icmp_ne (off := 9) (t := 11) (p' := 5) (by decide +kernel) rfl (fun hc => ?_) (fun hc => ?_)
  · refine ms_iload_n (k := 0) (p' := 12) (by decide +kernel) rfl rfl ?_
    refine ms_iconst (n := 3) (v := 3) (p' := 13) (by decide +kernel) rfl ?_
    refine ms_icmp_eq (off := 8) (t := 21) (p' := 16) (by decide +kernel) rfl (fun hc => ?_) (fun hc => ?_)
    · refine ms_iload_n (k := 1) (p' := 22) (by decide +kernel) rfl rfl ?_
      refine ms_ineg (p' := 23) (by decide +kernel) rfl ?_
      refine ms_stat_i (idx := 291) (cy := yX_atMost) (n := 1) (as := [.inl (mj_w (-x1))]) (rest := []) (p' := 26) (by decide +kernel) rfl rfl rfl rfl rfl (fun f1 v2 => ?_)
      refine ms_goto (off := 6) (p' := 32) (by decide +kernel) ?_
      exact ms_iret (by decide +kernel)
    · refine ms_iload_n (k := 0) (p' := 17) (by decide +kernel) rfl rfl ?_
      refine ms_iconst (n := 2) (v := 2) (p' := 18) (by decide +kernel) rfl ?_
      refine ms_icmp_ne (off := 11) (t := 29) (p' := 21) (by decide +kernel) rfl (fun hc => ?_) (fun hc => ?_)
      · refine ms_ldc_w (idx := 437) (v := 268435456) (p' := 32) (by decide +kernel) rfl ?_
        exact ms_iret (by decide +kernel)
      · refine ms_iload_n (k := 1) (p' := 22) (by decide +kernel) rfl rfl ?_
        refine ms_ineg (p' := 23) (by decide +kernel) rfl ?_
        refine ms_stat_i (idx := 291) (cy := yX_atMost) (n := 1) (as := [.inl (mj_w (-x1))]) (rest := []) (p' := 26) (by decide +kernel) rfl rfl rfl rfl rfl (fun f3 v4 => ?_)
        refine ms_goto (off := 6) (p' := 32) (by decide +kernel) ?_
        exact ms_iret (by decide +kernel)
  · refine ms_iload_n (k := 1) (p' := 6) (by decide +kernel) rfl rfl ?_
    refine ms_ineg (p' := 7) (by decide +kernel) rfl ?_
    refine ms_stat_i (idx := 444) (cy := yX_lessThan) (n := 1) (as := [.inl (mj_w (-x1))]) (rest := []) (p' := 10) (by decide +kernel) rfl rfl rfl rfl rfl (fun f5 v6 => ?_)
    exact ms_iret (by decide +kernel)
theorem c_Z_keepRules {sw : Bool} {w : mj_W} (hw : wk sw w) (f : mj_F) (z : Nat) (p : Nat) (x2 : Int) (hz : zn z = true) (hp : pn p) : mj_call yZ_keepRules w f [.inr (.inl z), .inr (.inl p), .inl x2] = mj_run yZ_keepRules w f 2 [.inr (.inl z), .inr (.inl p), .inl x2, .inl 0, .inr (.inr (.inr 0)), .inr (.inr (.inr 0))] [] := by
  show mj_run yZ_keepRules w f 0 [.inr (.inl z), .inr (.inl p), .inl x2, .inr (.inr (.inr 0)), .inr (.inr (.inr 0)), .inr (.inr (.inr 0))] [] = _
  refine ms_iconst (n := 0) (v := 0) (p' := 1) (by decide +kernel) rfl ?_
  refine ms_istore_n (k := 3) (ls' := [.inr (.inl z), .inr (.inl p), .inl x2, .inl 0, .inr (.inr (.inr 0)), .inr (.inr (.inr 0))]) (p' := 2) (by decide +kernel) rfl (Nat.le_of_ble_eq_true rfl) rfl ?_
  rfl
theorem l_Z_keepRules_2 {sw : Bool} {w : mj_W} (hw : wk sw w) (f : mj_F) (z : Nat) (p : Nat) (x2 : Int) (x3 : Int) (u4 : mj_V) (u5 : mj_V) (hz : zn z = true) (hp : pn p) : mj_run yZ_keepRules w f 2 [.inr (.inl z), .inr (.inl p), .inl x2, .inl x3, u4, u5] [] = mj_gd (0 ≤ x2 ∧ x2 < ((24 : Nat) : Int)) (if (f (p + 4) x2.toNat) ≤ x3 then some (w, f, none) else mj_gd (0 ≤ (mj_w ((mj_w (x2 * 6)) + x3)) ∧ (mj_w ((mj_w (x2 * 6)) + x3)) < ((144 : Nat) : Int)) (mj_gd (0 ≤ (mj_w ((mj_w (x2 * 6)) + x3)) ∧ (mj_w ((mj_w (x2 * 6)) + x3)) < ((144 : Nat) : Int)) (mj_gd (0 ≤ (mj_w ((mj_w (x2 * 6)) + x3)) ∧ (mj_w ((mj_w (x2 * 6)) + x3)) < ((144 : Nat) : Int)) (mj_bi (mj_call yX_upperOf w f [.inl (f (p + 6) (mj_w ((mj_w (x2 * 6)) + x3)).toNat), .inl (f (p + 7) (mj_w ((mj_w (x2 * 6)) + x3)).toNat)]) (fun f5 v6 => mj_bu (mj_call yZ_tighten w f5 [.inr (.inl z), .inl (mj_w ((f (p + 5) (mj_w ((mj_w (x2 * 6)) + x3)).toNat) + 1)), .inl 0, .inl v6]) (fun f7 => mj_gd (0 ≤ (mj_w ((mj_w (x2 * 6)) + x3)) ∧ (mj_w ((mj_w (x2 * 6)) + x3)) < ((144 : Nat) : Int)) (mj_gd (0 ≤ (mj_w ((mj_w (x2 * 6)) + x3)) ∧ (mj_w ((mj_w (x2 * 6)) + x3)) < ((144 : Nat) : Int)) (mj_bi (mj_call yX_lowerOf w f7 [.inl (f7 (p + 6) (mj_w ((mj_w (x2 * 6)) + x3)).toNat), .inl (f7 (p + 7) (mj_w ((mj_w (x2 * 6)) + x3)).toNat)]) (fun f10 v11 => mj_bu (mj_call yZ_tighten w f10 [.inr (.inl z), .inl 0, .inl (mj_w ((f (p + 5) (mj_w ((mj_w (x2 * 6)) + x3)).toNat) + 1)), .inl v11]) (fun f12 => mj_run yZ_keepRules w f12 2 [.inr (.inl z), .inr (.inl p), .inl x2, .inl (mj_w (x3 + 1)), .inl (mj_w ((mj_w (x2 * 6)) + x3)), .inl (mj_w ((f (p + 5) (mj_w ((mj_w (x2 * 6)) + x3)).toNat) + 1))] [])))))))))) := by
  refine ms_iload_n (k := 3) (p' := 3) (by decide +kernel) rfl rfl ?_
  refine ms_aload_n (k := 1) (p' := 4) (by decide +kernel) rfl rfl ?_
  refine ms_getr (idx := 80) (ci := 3) (k := 9) (q := 234) (p' := 7) (by decide +kernel) rfl (pn_k hp hw) (pn_r9 hp hw) (by omega) ?_
  refine ms_iload_n (k := 2) (p' := 8) (by decide +kernel) rfl rfl ?_
  refine ms_iald (p' := 9) (by decide +kernel) rfl (pn_k9 hp hw) (fun hj1 => ?_)
  refine ms_icmp_ge (off := 76) (t := 85) (p' := 12) (by decide +kernel) rfl (fun hc => ?_) (fun hc => ?_)
  · exact ms_vret (by decide +kernel)
  · refine ms_iload_n (k := 2) (p' := 13) (by decide +kernel) rfl rfl ?_
    refine ms_bipush (n := 6) (v := 6) (p' := 15) (by decide +kernel) rfl ?_
    refine ms_imul (p' := 16) (by decide +kernel) rfl ?_
    refine ms_iload_n (k := 3) (p' := 17) (by decide +kernel) rfl rfl ?_
    refine ms_iadd (p' := 18) (by decide +kernel) rfl ?_
    refine ms_istore (k := 4) (ls' := [.inr (.inl z), .inr (.inl p), .inl x2, .inl x3, .inl (mj_w ((mj_w (x2 * 6)) + x3)), u5]) (p' := 20) (by decide +kernel) rfl (Nat.le_of_ble_eq_true rfl) rfl ?_
    refine ms_aload_n (k := 1) (p' := 21) (by decide +kernel) rfl rfl ?_
    refine ms_getr (idx := 85) (ci := 3) (k := 10) (q := 238) (p' := 24) (by decide +kernel) rfl (pn_k hp hw) (pn_r10 hp hw) (by omega) ?_
    refine ms_iload (k := 4) (p' := 26) (by decide +kernel) rfl rfl ?_
    refine ms_iald (p' := 27) (by decide +kernel) rfl (pn_k10 hp hw) (fun hj2 => ?_)
    refine ms_iconst (n := 1) (v := 1) (p' := 28) (by decide +kernel) rfl ?_
    refine ms_iadd (p' := 29) (by decide +kernel) rfl ?_
    refine ms_istore (k := 5) (ls' := [.inr (.inl z), .inr (.inl p), .inl x2, .inl x3, .inl (mj_w ((mj_w (x2 * 6)) + x3)), .inl (mj_w ((f (p + 5) (mj_w ((mj_w (x2 * 6)) + x3)).toNat) + 1))]) (p' := 31) (by decide +kernel) rfl (Nat.le_of_ble_eq_true rfl) rfl ?_
    refine ms_aload_n (k := 0) (p' := 32) (by decide +kernel) rfl rfl ?_
    refine ms_iload (k := 5) (p' := 34) (by decide +kernel) rfl rfl ?_
    refine ms_iconst (n := 0) (v := 0) (p' := 35) (by decide +kernel) rfl ?_
    refine ms_aload_n (k := 1) (p' := 36) (by decide +kernel) rfl rfl ?_
    refine ms_getr (idx := 88) (ci := 3) (k := 11) (q := 242) (p' := 39) (by decide +kernel) rfl (pn_k hp hw) (pn_r11 hp hw) (by omega) ?_
    refine ms_iload (k := 4) (p' := 41) (by decide +kernel) rfl rfl ?_
    refine ms_iald (p' := 42) (by decide +kernel) rfl (pn_k11 hp hw) (fun hj3 => ?_)
    refine ms_aload_n (k := 1) (p' := 43) (by decide +kernel) rfl rfl ?_
    refine ms_getr (idx := 91) (ci := 3) (k := 12) (q := 246) (p' := 46) (by decide +kernel) rfl (pn_k hp hw) (pn_r12 hp hw) (by omega) ?_
    refine ms_iload (k := 4) (p' := 48) (by decide +kernel) rfl rfl ?_
    refine ms_iald (p' := 49) (by decide +kernel) rfl (pn_k12 hp hw) (fun hj4 => ?_)
    refine ms_stat_i (idx := 62) (cy := yX_upperOf) (n := 2) (as := [.inl (f (p + 6) (mj_w ((mj_w (x2 * 6)) + x3)).toNat), .inl (f (p + 7) (mj_w ((mj_w (x2 * 6)) + x3)).toNat)]) (rest := [.inl 0, .inl (mj_w ((f (p + 5) (mj_w ((mj_w (x2 * 6)) + x3)).toNat) + 1)), .inr (.inl z)]) (p' := 52) (by decide +kernel) rfl rfl rfl rfl rfl (fun f5 v6 => ?_)
    refine ms_virt_u (idx := 65) (cy := yZ_tighten) (n := 3) (a := z) (as := [.inl (mj_w ((f (p + 5) (mj_w ((mj_w (x2 * 6)) + x3)).toNat) + 1)), .inl 0, .inl v6]) (rest := []) (p' := 55) (by decide +kernel) rfl rfl rfl rfl (zn_k hz hw) rfl (fun f7 => ?_)
    refine ms_aload_n (k := 0) (p' := 56) (by decide +kernel) rfl rfl ?_
    refine ms_iconst (n := 0) (v := 0) (p' := 57) (by decide +kernel) rfl ?_
    refine ms_iload (k := 5) (p' := 59) (by decide +kernel) rfl rfl ?_
    refine ms_aload_n (k := 1) (p' := 60) (by decide +kernel) rfl rfl ?_
    refine ms_getr (idx := 88) (ci := 3) (k := 11) (q := 242) (p' := 63) (by decide +kernel) rfl (pn_k hp hw) (pn_r11 hp hw) (by omega) ?_
    refine ms_iload (k := 4) (p' := 65) (by decide +kernel) rfl rfl ?_
    refine ms_iald (p' := 66) (by decide +kernel) rfl (pn_k11 hp hw) (fun hj8 => ?_)
    refine ms_aload_n (k := 1) (p' := 67) (by decide +kernel) rfl rfl ?_
    refine ms_getr (idx := 91) (ci := 3) (k := 12) (q := 246) (p' := 70) (by decide +kernel) rfl (pn_k hp hw) (pn_r12 hp hw) (by omega) ?_
    refine ms_iload (k := 4) (p' := 72) (by decide +kernel) rfl rfl ?_
    refine ms_iald (p' := 73) (by decide +kernel) rfl (pn_k12 hp hw) (fun hj9 => ?_)
    refine ms_stat_i (idx := 68) (cy := yX_lowerOf) (n := 2) (as := [.inl (f7 (p + 6) (mj_w ((mj_w (x2 * 6)) + x3)).toNat), .inl (f7 (p + 7) (mj_w ((mj_w (x2 * 6)) + x3)).toNat)]) (rest := [.inl (mj_w ((f (p + 5) (mj_w ((mj_w (x2 * 6)) + x3)).toNat) + 1)), .inl 0, .inr (.inl z)]) (p' := 76) (by decide +kernel) rfl rfl rfl rfl rfl (fun f10 v11 => ?_)
    refine ms_virt_u (idx := 65) (cy := yZ_tighten) (n := 3) (a := z) (as := [.inl 0, .inl (mj_w ((f (p + 5) (mj_w ((mj_w (x2 * 6)) + x3)).toNat) + 1)), .inl v11]) (rest := []) (p' := 79) (by decide +kernel) rfl rfl rfl rfl (zn_k hz hw) rfl (fun f12 => ?_)
    refine ms_iinc (k := 3) (n := 1) (ls' := [.inr (.inl z), .inr (.inl p), .inl x2, .inl (mj_w (x3 + 1)), .inl (mj_w ((mj_w (x2 * 6)) + x3)), .inl (mj_w ((f (p + 5) (mj_w ((mj_w (x2 * 6)) + x3)).toNat) + 1))]) (p' := 82) (by decide +kernel) rfl rfl rfl ?_
    refine ms_goto (off := (-80)) (p' := 2) (by decide +kernel) ?_
    rfl
theorem c_Z_goUp {sw : Bool} {w : mj_W} (hw : wk sw w) (f : mj_F) (z : Nat) (hz : zn z = true) : mj_call yZ_goUp w f [.inr (.inl z)] = mj_run yZ_goUp w f 2 [.inr (.inl z), .inl 1] [] := by
  show mj_run yZ_goUp w f 0 [.inr (.inl z), .inr (.inr (.inr 0))] [] = _
  refine ms_iconst (n := 1) (v := 1) (p' := 1) (by decide +kernel) rfl ?_
  refine ms_istore_n (k := 1) (ls' := [.inr (.inl z), .inl 1]) (p' := 2) (by decide +kernel) rfl (Nat.le_of_ble_eq_true rfl) rfl ?_
  rfl
theorem l_Z_goUp_2 {sw : Bool} {w : mj_W} (hw : wk sw w) (f : mj_F) (z : Nat) (x1 : Int) (hz : zn z = true) : mj_run yZ_goUp w f 2 [.inr (.inl z), .inl x1] [] = if (f z 1) ≤ x1 then some (w, f, none) else mj_bu (mj_call yZ_put w f [.inr (.inl z), .inl x1, .inl 0, .inl 268435456]) (fun f1 => mj_run yZ_goUp w f1 2 [.inr (.inl z), .inl (mj_w (x1 + 1))] []) := by
  refine ms_iload_n (k := 1) (p' := 3) (by decide +kernel) rfl rfl ?_
  refine ms_aload_n (k := 0) (p' := 4) (by decide +kernel) rfl rfl ?_
  refine ms_geti (idx := 15) (ci := 7) (k := 1) (q := 360) (p' := 7) (by decide +kernel) rfl (zn_k hz hw) ?_
  refine ms_icmp_ge (off := 17) (t := 24) (p' := 10) (by decide +kernel) rfl (fun hc => ?_) (fun hc => ?_)
  · exact ms_vret (by decide +kernel)
  · refine ms_aload_n (k := 0) (p' := 11) (by decide +kernel) rfl rfl ?_
    refine ms_iload_n (k := 1) (p' := 12) (by decide +kernel) rfl rfl ?_
    refine ms_iconst (n := 0) (v := 0) (p' := 13) (by decide +kernel) rfl ?_
    refine ms_ldc (idx := 74) (v := 268435456) (p' := 15) (by decide +kernel) rfl ?_
    refine ms_virt_u (idx := 54) (cy := yZ_put) (n := 3) (a := z) (as := [.inl x1, .inl 0, .inl 268435456]) (rest := []) (p' := 18) (by decide +kernel) rfl rfl rfl rfl (zn_k hz hw) rfl (fun f1 => ?_)
    refine ms_iinc (k := 1) (n := 1) (ls' := [.inr (.inl z), .inl (mj_w (x1 + 1))]) (p' := 21) (by decide +kernel) rfl rfl rfl ?_
    refine ms_goto (off := (-19)) (p' := 2) (by decide +kernel) ?_
    rfl
theorem c_Z_waitIn {sw : Bool} {w : mj_W} (hw : wk sw w) (f : mj_F) (z : Nat) (p : Nat) (x2 : Int) (hz : zn z = true) (hp : pn p) : mj_call yZ_waitIn w f [.inr (.inl z), .inr (.inl p), .inl x2] = mj_bi (mj_call yX_stayRules w f [.inl x2]) (fun f1 v2 => mj_bu (mj_call yZ_keepRules w f1 [.inr (.inl z), .inr (.inl p), .inl v2]) (fun f3 => mj_bu (mj_call yZ_goUp w f3 [.inr (.inl z)]) (fun f4 => mj_bi (mj_call yX_stayRules w f4 [.inl x2]) (fun f5 v6 => mj_bu (mj_call yZ_keepRules w f5 [.inr (.inl z), .inr (.inl p), .inl v6]) (fun f7 => some (w, f7, none)))))) := by
  show mj_run yZ_waitIn w f 0 [.inr (.inl z), .inr (.inl p), .inl x2] [] = _
  refine ms_aload_n (k := 0) (p' := 1) (by decide +kernel) rfl rfl ?_
  refine ms_aload_n (k := 1) (p' := 2) (by decide +kernel) rfl rfl ?_
  refine ms_iload_n (k := 2) (p' := 3) (by decide +kernel) rfl rfl ?_
  refine ms_stat_i (idx := 106) (cy := yX_stayRules) (n := 1) (as := [.inl x2]) (rest := [.inr (.inl p), .inr (.inl z)]) (p' := 6) (by decide +kernel) rfl rfl rfl rfl rfl (fun f1 v2 => ?_)
  refine ms_virt_u (idx := 109) (cy := yZ_keepRules) (n := 2) (a := z) (as := [.inr (.inl p), .inl v2]) (rest := []) (p' := 9) (by decide +kernel) rfl rfl rfl rfl (zn_k hz hw) rfl (fun f3 => ?_)
  refine ms_aload_n (k := 0) (p' := 10) (by decide +kernel) rfl rfl ?_
  refine ms_virt_u (idx := 113) (cy := yZ_goUp) (n := 0) (a := z) (as := []) (rest := []) (p' := 13) (by decide +kernel) rfl rfl rfl rfl (zn_k hz hw) rfl (fun f4 => ?_)
  refine ms_aload_n (k := 0) (p' := 14) (by decide +kernel) rfl rfl ?_
  refine ms_aload_n (k := 1) (p' := 15) (by decide +kernel) rfl rfl ?_
  refine ms_iload_n (k := 2) (p' := 16) (by decide +kernel) rfl rfl ?_
  refine ms_stat_i (idx := 106) (cy := yX_stayRules) (n := 1) (as := [.inl x2]) (rest := [.inr (.inl p), .inr (.inl z)]) (p' := 19) (by decide +kernel) rfl rfl rfl rfl rfl (fun f5 v6 => ?_)
  refine ms_virt_u (idx := 109) (cy := yZ_keepRules) (n := 2) (a := z) (as := [.inr (.inl p), .inl v6]) (rest := []) (p' := 22) (by decide +kernel) rfl rfl rfl rfl (zn_k hz hw) rfl (fun f7 => ?_)
  exact ms_vret (by decide +kernel)
theorem c_Z_greatOf {sw : Bool} {w : mj_W} (hw : wk sw w) (f : mj_F) (p : Nat) (x1 : Int) (hp : pn p) : mj_call yZ_greatOf w f [.inr (.inl p), .inl x1] = if ¬ x1 = 0 then mj_gd (0 ≤ (mj_w (x1 - 1)) ∧ (mj_w (x1 - 1)) < ((4 : Nat) : Int)) (some (w, f, some (.inl (f (p + 3) (mj_w (x1 - 1)).toNat)))) else some (w, f, some (.inl 0)) := by
  show mj_run yZ_greatOf w f 0 [.inr (.inl p), .inl x1] [] = _
  refine ms_iload_n (k := 1) (p' := 1) (by decide +kernel) rfl rfl ?_
  refine ms_if_ne (off := 7) (t := 8) (p' := 4) (by decide +kernel) rfl (fun hc => ?_) (fun hc => ?_)
  · refine ms_aload_n (k := 0) (p' := 9) (by decide +kernel) rfl rfl ?_
    refine ms_getr (idx := 143) (ci := 3) (k := 8) (q := 230) (p' := 12) (by decide +kernel) rfl (pn_k hp hw) (pn_r8 hp hw) (by omega) ?_
    refine ms_iload_n (k := 1) (p' := 13) (by decide +kernel) rfl rfl ?_
    refine ms_iconst (n := 1) (v := 1) (p' := 14) (by decide +kernel) rfl ?_
    refine ms_isub (p' := 15) (by decide +kernel) rfl ?_
    refine ms_iald (p' := 16) (by decide +kernel) rfl (pn_k8 hp hw) (fun hj1 => ?_)
    exact ms_iret (by decide +kernel)
  · refine ms_iconst (n := 0) (v := 0) (p' := 5) (by decide +kernel) rfl ?_
    refine ms_goto (off := 11) (p' := 16) (by decide +kernel) ?_
    exact ms_iret (by decide +kernel)
theorem c_X_numberOf {sw : Bool} {w : mj_W} (hw : wk sw w) (f : mj_F) (x0 : Int)  : mj_call yX_numberOf w f [.inl x0] = some (w, f, some (.inl (mj_shr x0 1))) := by
  show mj_run yX_numberOf w f 0 [.inl x0] [] = _
  refine ms_iload_n (k := 0) (p' := 1) (by decide +kernel) rfl rfl ?_
  refine ms_iconst (n := 1) (v := 1) (p' := 2) (by decide +kernel) rfl ?_
  refine ms_ishr (p' := 3) (by decide +kernel) rfl ?_
  exact ms_iret (by decide +kernel)
theorem c_Z_roughBound {sw : Bool} {w : mj_W} (hw : wk sw w) (f : mj_F) (x0 : Int) (x1 : Int) (x2 : Int)  : mj_call yZ_roughBound w f [.inl x0, .inl x1, .inl x2] = if 268435456 ≤ x0 then some (w, f, some (.inl 268435456)) else mj_bi (mj_call yX_numberOf w f [.inl x0]) (fun f1 v2 => if v2 ≤ x1 then mj_bi (mj_call yX_numberOf w f1 [.inl x0]) (fun f3 v4 => if (mj_w (-x2)) ≤ v4 then some (w, f3, some (.inl x0)) else mj_bi (mj_call yX_lessThan w f3 [.inl (mj_w (-x2))]) (fun f5 v6 => some (w, f5, some (.inl v6)))) else some (w, f1, some (.inl 268435456))) := by
  show mj_run yZ_roughBound w f 0 [.inl x0, .inl x1, .inl x2] [] = _
  refine ms_iload_n (k := 0) (p' := 1) (by decide +kernel) rfl rfl ?_
  refine ms_ldc (idx := 74) (v := 268435456) (p' := 3) (by decide +kernel) rfl ?_
  refine ms_icmp_ge (off := 11) (t := 14) (p' := 6) (by decide +kernel) rfl (fun hc => ?_) (fun hc => ?_)
  · refine ms_ldc (idx := 74) (v := 268435456) (p' := 16) (by decide +kernel) rfl ?_
    exact ms_iret (by decide +kernel)
  · refine ms_iload_n (k := 0) (p' := 7) (by decide +kernel) rfl rfl ?_
    refine ms_stat_i (idx := 33) (cy := yX_numberOf) (n := 1) (as := [.inl x0]) (rest := []) (p' := 10) (by decide +kernel) rfl rfl rfl rfl rfl (fun f1 v2 => ?_)
    refine ms_iload_n (k := 1) (p' := 11) (by decide +kernel) rfl rfl ?_
    refine ms_icmp_le (off := 6) (t := 17) (p' := 14) (by decide +kernel) rfl (fun hc => ?_) (fun hc => ?_)
    · refine ms_iload_n (k := 0) (p' := 18) (by decide +kernel) rfl rfl ?_
      refine ms_stat_i (idx := 33) (cy := yX_numberOf) (n := 1) (as := [.inl x0]) (rest := []) (p' := 21) (by decide +kernel) rfl rfl rfl rfl rfl (fun f3 v4 => ?_)
      refine ms_iload_n (k := 2) (p' := 22) (by decide +kernel) rfl rfl ?_
      refine ms_ineg (p' := 23) (by decide +kernel) rfl ?_
      refine ms_icmp_ge (off := 11) (t := 34) (p' := 26) (by decide +kernel) rfl (fun hc => ?_) (fun hc => ?_)
      · refine ms_iload_n (k := 0) (p' := 35) (by decide +kernel) rfl rfl ?_
        exact ms_iret (by decide +kernel)
      · refine ms_iload_n (k := 2) (p' := 27) (by decide +kernel) rfl rfl ?_
        refine ms_ineg (p' := 28) (by decide +kernel) rfl ?_
        refine ms_stat_i (idx := 146) (cy := yX_lessThan) (n := 1) (as := [.inl (mj_w (-x2))]) (rest := []) (p' := 31) (by decide +kernel) rfl rfl rfl rfl rfl (fun f5 v6 => ?_)
        refine ms_goto (off := 4) (p' := 35) (by decide +kernel) ?_
        exact ms_iret (by decide +kernel)
    · refine ms_ldc (idx := 74) (v := 268435456) (p' := 16) (by decide +kernel) rfl ?_
      exact ms_iret (by decide +kernel)
theorem c_X_closeCells {sw : Bool} {w : mj_W} (hw : wk sw w) (f : mj_F) (r0 nr0 : Nat) (x1 : Int) (x2 : Int) (hr0 : w.1 r0 = (100, nr0)) : mj_call yX_closeCells w f [.inr (.inl r0), .inl x1, .inl x2] = mj_run yX_closeCells w f 2 [.inr (.inl r0), .inl x1, .inl x2, .inl 0, .inr (.inr (.inr 0)), .inr (.inr (.inr 0)), .inr (.inr (.inr 0)), .inr (.inr (.inr 0))] [] := by
  show mj_run yX_closeCells w f 0 [.inr (.inl r0), .inl x1, .inl x2, .inr (.inr (.inr 0)), .inr (.inr (.inr 0)), .inr (.inr (.inr 0)), .inr (.inr (.inr 0)), .inr (.inr (.inr 0))] [] = _
  refine ms_iconst (n := 0) (v := 0) (p' := 1) (by decide +kernel) rfl ?_
  refine ms_istore_n (k := 3) (ls' := [.inr (.inl r0), .inl x1, .inl x2, .inl 0, .inr (.inr (.inr 0)), .inr (.inr (.inr 0)), .inr (.inr (.inr 0)), .inr (.inr (.inr 0))]) (p' := 2) (by decide +kernel) rfl (Nat.le_of_ble_eq_true rfl) rfl ?_
  rfl
theorem l_X_closeCells_2 {sw : Bool} {w : mj_W} (hw : wk sw w) (f : mj_F) (r0 nr0 : Nat) (x1 : Int) (x2 : Int) (x3 : Int) (u4 : mj_V) (u5 : mj_V) (u6 : mj_V) (u7 : mj_V) (hr0 : w.1 r0 = (100, nr0)) : mj_run yX_closeCells w f 2 [.inr (.inl r0), .inl x1, .inl x2, .inl x3, u4, u5, u6, u7] [] = if x2 ≤ x3 then some (w, f, some (.inl 1)) else mj_gd (0 ≤ (mj_w ((mj_w (x3 * x1)) + x3)) ∧ (mj_w ((mj_w (x3 * x1)) + x3)) < ((nr0 : Nat) : Int)) (if 1 ≤ (f r0 (mj_w ((mj_w (x3 * x1)) + x3)).toNat) then mj_run yX_closeCells w f 23 [.inr (.inl r0), .inl x1, .inl x2, .inl x3, .inl 0, u5, u6, u7] [] else some (w, f, some (.inl 0))) := by
  refine ms_iload_n (k := 3) (p' := 3) (by decide +kernel) rfl rfl ?_
  refine ms_iload_n (k := 2) (p' := 4) (by decide +kernel) rfl rfl ?_
  refine ms_icmp_ge (off := 110) (t := 114) (p' := 7) (by decide +kernel) rfl (fun hc => ?_) (fun hc => ?_)
  · refine ms_iconst (n := 1) (v := 1) (p' := 115) (by decide +kernel) rfl ?_
    exact (ms_zret (by decide +kernel)).trans (mj_gd_pos (by decide) _)
  · refine ms_aload_n (k := 0) (p' := 8) (by decide +kernel) rfl rfl ?_
    refine ms_iload_n (k := 3) (p' := 9) (by decide +kernel) rfl rfl ?_
    refine ms_iload_n (k := 1) (p' := 10) (by decide +kernel) rfl rfl ?_
    refine ms_imul (p' := 11) (by decide +kernel) rfl ?_
    refine ms_iload_n (k := 3) (p' := 12) (by decide +kernel) rfl rfl ?_
    refine ms_iadd (p' := 13) (by decide +kernel) rfl ?_
    refine ms_iald (p' := 14) (by decide +kernel) rfl hr0 (fun hj1 => ?_)
    refine ms_iconst (n := 1) (v := 1) (p' := 15) (by decide +kernel) rfl ?_
    refine ms_icmp_ge (off := 5) (t := 20) (p' := 18) (by decide +kernel) rfl (fun hc => ?_) (fun hc => ?_)
    · refine ms_iconst (n := 0) (v := 0) (p' := 21) (by decide +kernel) rfl ?_
      refine ms_istore (k := 4) (ls' := [.inr (.inl r0), .inl x1, .inl x2, .inl x3, .inl 0, u5, u6, u7]) (p' := 23) (by decide +kernel) rfl (Nat.le_of_ble_eq_true rfl) rfl ?_
      rfl
    · refine ms_iconst (n := 0) (v := 0) (p' := 19) (by decide +kernel) rfl ?_
      exact (ms_zret (by decide +kernel)).trans (mj_gd_pos (by decide) _)
theorem l_X_closeCells_23 {sw : Bool} {w : mj_W} (hw : wk sw w) (f : mj_F) (r0 nr0 : Nat) (x1 : Int) (x2 : Int) (x3 : Int) (x4 : Int) (u5 : mj_V) (u6 : mj_V) (u7 : mj_V) (hr0 : w.1 r0 = (100, nr0)) : mj_run yX_closeCells w f 23 [.inr (.inl r0), .inl x1, .inl x2, .inl x3, .inl x4, u5, u6, u7] [] = if x2 ≤ x4 then mj_run yX_closeCells w f 2 [.inr (.inl r0), .inl x1, .inl x2, .inl (mj_w (x3 + 1)), .inl x4, u5, u6, u7] [] else mj_gd (0 ≤ (mj_w ((mj_w (x4 * x1)) + x3)) ∧ (mj_w ((mj_w (x4 * x1)) + x3)) < ((nr0 : Nat) : Int)) (mj_run yX_closeCells w f 42 [.inr (.inl r0), .inl x1, .inl x2, .inl x3, .inl x4, .inl (f r0 (mj_w ((mj_w (x4 * x1)) + x3)).toNat), .inl 0, u7] []) := by
  refine ms_iload (k := 4) (p' := 25) (by decide +kernel) rfl rfl ?_
  refine ms_iload_n (k := 2) (p' := 26) (by decide +kernel) rfl rfl ?_
  refine ms_icmp_ge (off := 82) (t := 108) (p' := 29) (by decide +kernel) rfl (fun hc => ?_) (fun hc => ?_)
  · refine ms_iinc (k := 3) (n := 1) (ls' := [.inr (.inl r0), .inl x1, .inl x2, .inl (mj_w (x3 + 1)), .inl x4, u5, u6, u7]) (p' := 111) (by decide +kernel) rfl rfl rfl ?_
    refine ms_goto (off := (-109)) (p' := 2) (by decide +kernel) ?_
    rfl
  · refine ms_aload_n (k := 0) (p' := 30) (by decide +kernel) rfl rfl ?_
    refine ms_iload (k := 4) (p' := 32) (by decide +kernel) rfl rfl ?_
    refine ms_iload_n (k := 1) (p' := 33) (by decide +kernel) rfl rfl ?_
    refine ms_imul (p' := 34) (by decide +kernel) rfl ?_
    refine ms_iload_n (k := 3) (p' := 35) (by decide +kernel) rfl rfl ?_
    refine ms_iadd (p' := 36) (by decide +kernel) rfl ?_
    refine ms_iald (p' := 37) (by decide +kernel) rfl hr0 (fun hj2 => ?_)
    refine ms_istore (k := 5) (ls' := [.inr (.inl r0), .inl x1, .inl x2, .inl x3, .inl x4, .inl (f r0 (mj_w ((mj_w (x4 * x1)) + x3)).toNat), u6, u7]) (p' := 39) (by decide +kernel) rfl (Nat.le_of_ble_eq_true rfl) rfl ?_
    refine ms_iconst (n := 0) (v := 0) (p' := 40) (by decide +kernel) rfl ?_
    refine ms_istore (k := 6) (ls' := [.inr (.inl r0), .inl x1, .inl x2, .inl x3, .inl x4, .inl (f r0 (mj_w ((mj_w (x4 * x1)) + x3)).toNat), .inl 0, u7]) (p' := 42) (by decide +kernel) rfl (Nat.le_of_ble_eq_true rfl) rfl ?_
    rfl
theorem l_X_closeCells_42 {sw : Bool} {w : mj_W} (hw : wk sw w) (f : mj_F) (r0 nr0 : Nat) (x1 : Int) (x2 : Int) (x3 : Int) (x4 : Int) (x5 : Int) (x6 : Int) (u7 : mj_V) (hr0 : w.1 r0 = (100, nr0)) : mj_run yX_closeCells w f 42 [.inr (.inl r0), .inl x1, .inl x2, .inl x3, .inl x4, .inl x5, .inl x6, u7] [] = if x2 ≤ x6 then mj_run yX_closeCells w f 23 [.inr (.inl r0), .inl x1, .inl x2, .inl x3, .inl (mj_w (x4 + 1)), .inl x5, .inl x6, u7] [] else if 268435456 ≤ x5 then mj_run yX_closeCells w f 23 [.inr (.inl r0), .inl x1, .inl x2, .inl x3, .inl (mj_w (x4 + 1)), .inl x5, .inl x6, u7] [] else mj_gd (0 ≤ (mj_w ((mj_w (x3 * x1)) + x6)) ∧ (mj_w ((mj_w (x3 * x1)) + x6)) < ((nr0 : Nat) : Int)) (mj_bi (mj_call yX_sumOf w f [.inl x5, .inl (f r0 (mj_w ((mj_w (x3 * x1)) + x6)).toNat)]) (fun f4 v5 => mj_gd (0 ≤ (mj_w ((mj_w (x4 * x1)) + x6)) ∧ (mj_w ((mj_w (x4 * x1)) + x6)) < ((nr0 : Nat) : Int)) (if (f4 r0 (mj_w ((mj_w (x4 * x1)) + x6)).toNat) ≤ v5 then mj_run yX_closeCells w f4 42 [.inr (.inl r0), .inl x1, .inl x2, .inl x3, .inl x4, .inl x5, .inl (mj_w (x6 + 1)), .inl v5] [] else mj_gd (0 ≤ (mj_w ((mj_w (x4 * x1)) + x6)) ∧ (mj_w ((mj_w (x4 * x1)) + x6)) < ((nr0 : Nat) : Int)) (mj_run yX_closeCells w (mj_u f4 r0 (mj_w ((mj_w (x4 * x1)) + x6)).toNat v5) 42 [.inr (.inl r0), .inl x1, .inl x2, .inl x3, .inl x4, .inl x5, .inl (mj_w (x6 + 1)), .inl v5] [])))) := by
  refine ms_iload (k := 6) (p' := 44) (by decide +kernel) rfl rfl ?_
  refine ms_iload_n (k := 2) (p' := 45) (by decide +kernel) rfl rfl ?_
  refine ms_icmp_ge (off := 57) (t := 102) (p' := 48) (by decide +kernel) rfl (fun hc => ?_) (fun hc => ?_)
  · refine ms_iinc (k := 4) (n := 1) (ls' := [.inr (.inl r0), .inl x1, .inl x2, .inl x3, .inl (mj_w (x4 + 1)), .inl x5, .inl x6, u7]) (p' := 105) (by decide +kernel) rfl rfl rfl ?_
    refine ms_goto (off := (-82)) (p' := 23) (by decide +kernel) ?_
    rfl
  · refine ms_iload (k := 5) (p' := 50) (by decide +kernel) rfl rfl ?_
    refine ms_ldc_w (idx := 437) (v := 268435456) (p' := 53) (by decide +kernel) rfl ?_
    refine ms_icmp_ge (off := 49) (t := 102) (p' := 56) (by decide +kernel) rfl (fun hc => ?_) (fun hc => ?_)
    · refine ms_iinc (k := 4) (n := 1) (ls' := [.inr (.inl r0), .inl x1, .inl x2, .inl x3, .inl (mj_w (x4 + 1)), .inl x5, .inl x6, u7]) (p' := 105) (by decide +kernel) rfl rfl rfl ?_
      refine ms_goto (off := (-82)) (p' := 23) (by decide +kernel) ?_
      rfl
    · refine ms_iload (k := 5) (p' := 58) (by decide +kernel) rfl rfl ?_
      refine ms_aload_n (k := 0) (p' := 59) (by decide +kernel) rfl rfl ?_
      refine ms_iload_n (k := 3) (p' := 60) (by decide +kernel) rfl rfl ?_
      refine ms_iload_n (k := 1) (p' := 61) (by decide +kernel) rfl rfl ?_
      refine ms_imul (p' := 62) (by decide +kernel) rfl ?_
      refine ms_iload (k := 6) (p' := 64) (by decide +kernel) rfl rfl ?_
      refine ms_iadd (p' := 65) (by decide +kernel) rfl ?_
      refine ms_iald (p' := 66) (by decide +kernel) rfl hr0 (fun hj3 => ?_)
      refine ms_stat_i (idx := 312) (cy := yX_sumOf) (n := 2) (as := [.inl x5, .inl (f r0 (mj_w ((mj_w (x3 * x1)) + x6)).toNat)]) (rest := []) (p' := 69) (by decide +kernel) rfl rfl rfl rfl rfl (fun f4 v5 => ?_)
      refine ms_istore (k := 7) (ls' := [.inr (.inl r0), .inl x1, .inl x2, .inl x3, .inl x4, .inl x5, .inl x6, .inl v5]) (p' := 71) (by decide +kernel) rfl (Nat.le_of_ble_eq_true rfl) rfl ?_
      refine ms_iload (k := 7) (p' := 73) (by decide +kernel) rfl rfl ?_
      refine ms_aload_n (k := 0) (p' := 74) (by decide +kernel) rfl rfl ?_
      refine ms_iload (k := 4) (p' := 76) (by decide +kernel) rfl rfl ?_
      refine ms_iload_n (k := 1) (p' := 77) (by decide +kernel) rfl rfl ?_
      refine ms_imul (p' := 78) (by decide +kernel) rfl ?_
      refine ms_iload (k := 6) (p' := 80) (by decide +kernel) rfl rfl ?_
      refine ms_iadd (p' := 81) (by decide +kernel) rfl ?_
      refine ms_iald (p' := 82) (by decide +kernel) rfl hr0 (fun hj6 => ?_)
      refine ms_icmp_ge (off := 14) (t := 96) (p' := 85) (by decide +kernel) rfl (fun hc => ?_) (fun hc => ?_)
      · refine ms_iinc (k := 6) (n := 1) (ls' := [.inr (.inl r0), .inl x1, .inl x2, .inl x3, .inl x4, .inl x5, .inl (mj_w (x6 + 1)), .inl v5]) (p' := 99) (by decide +kernel) rfl rfl rfl ?_
        refine ms_goto (off := (-57)) (p' := 42) (by decide +kernel) ?_
        rfl
      · refine ms_aload_n (k := 0) (p' := 86) (by decide +kernel) rfl rfl ?_
        refine ms_iload (k := 4) (p' := 88) (by decide +kernel) rfl rfl ?_
        refine ms_iload_n (k := 1) (p' := 89) (by decide +kernel) rfl rfl ?_
        refine ms_imul (p' := 90) (by decide +kernel) rfl ?_
        refine ms_iload (k := 6) (p' := 92) (by decide +kernel) rfl rfl ?_
        refine ms_iadd (p' := 93) (by decide +kernel) rfl ?_
        refine ms_iload (k := 7) (p' := 95) (by decide +kernel) rfl rfl ?_
        refine ms_iast (p' := 96) (by decide +kernel) rfl hr0 (fun hj7 => ?_)
        refine ms_iinc (k := 6) (n := 1) (ls' := [.inr (.inl r0), .inl x1, .inl x2, .inl x3, .inl x4, .inl x5, .inl (mj_w (x6 + 1)), .inl v5]) (p' := 99) (by decide +kernel) rfl rfl rfl ?_
        refine ms_goto (off := (-57)) (p' := 42) (by decide +kernel) ?_
        rfl
theorem c_Z_close {sw : Bool} {w : mj_W} (hw : wk sw w) (f : mj_F) (z : Nat) (hz : zn z = true) : mj_call yZ_close w f [.inr (.inl z)] = if ¬ (f z 2) = 0 then some (w, (mj_u f z 2 1), none) else mj_bi (mj_call yX_closeCells w f [.inr (.inl (z + 1)), .inl 6, .inl (f z 1)]) (fun f1 v2 => if ¬ v2 = 0 then some (w, (mj_u f1 z 2 0), none) else some (w, (mj_u f1 z 2 1), none)) := by
  show mj_run yZ_close w f 0 [.inr (.inl z)] [] = _
  refine ms_aload_n (k := 0) (p' := 1) (by decide +kernel) rfl rfl ?_
  refine ms_aload_n (k := 0) (p' := 2) (by decide +kernel) rfl rfl ?_
  refine ms_geti (idx := 19) (ci := 7) (k := 2) (q := 362) (p' := 5) (by decide +kernel) rfl (zn_k hz hw) ?_
  refine ms_if_ne (off := 19) (t := 24) (p' := 8) (by decide +kernel) rfl (fun hc => ?_) (fun hc => ?_)
  · refine ms_iconst (n := 1) (v := 1) (p' := 25) (by decide +kernel) rfl ?_
    refine ms_goto (off := 4) (p' := 29) (by decide +kernel) ?_
    refine Eq.trans (ms_putz (idx := 19) (ci := 7) (k := 2) (q := 362) (p' := 32) (by decide +kernel) rfl (zn_k hz hw) (fun _ => ?_)) (mj_gd_pos (by decide) _)
    exact ms_vret (by decide +kernel)
  · refine ms_aload_n (k := 0) (p' := 9) (by decide +kernel) rfl rfl ?_
    refine ms_getr (idx := 9) (ci := 7) (k := 0) (q := 359) (p' := 12) (by decide +kernel) rfl (zn_k hz hw) (zn_r hz hw) (nz1 _) ?_
    refine ms_bipush (n := 6) (v := 6) (p' := 14) (by decide +kernel) rfl ?_
    refine ms_aload_n (k := 0) (p' := 15) (by decide +kernel) rfl rfl ?_
    refine ms_geti (idx := 15) (ci := 7) (k := 1) (q := 360) (p' := 18) (by decide +kernel) rfl (zn_k hz hw) ?_
    refine ms_stat_i (idx := 152) (cy := yX_closeCells) (n := 3) (as := [.inr (.inl (z + 1)), .inl 6, .inl (f z 1)]) (rest := [.inr (.inl z)]) (p' := 21) (by decide +kernel) rfl rfl rfl rfl rfl (fun f1 v2 => ?_)
    refine ms_if_ne (off := 7) (t := 28) (p' := 24) (by decide +kernel) rfl (fun hc => ?_) (fun hc => ?_)
    · refine ms_iconst (n := 0) (v := 0) (p' := 29) (by decide +kernel) rfl ?_
      refine Eq.trans (ms_putz (idx := 19) (ci := 7) (k := 2) (q := 362) (p' := 32) (by decide +kernel) rfl (zn_k hz hw) (fun _ => ?_)) (mj_gd_pos (by decide) _)
      exact ms_vret (by decide +kernel)
    · refine ms_iconst (n := 1) (v := 1) (p' := 25) (by decide +kernel) rfl ?_
      refine ms_goto (off := 4) (p' := 29) (by decide +kernel) ?_
      refine Eq.trans (ms_putz (idx := 19) (ci := 7) (k := 2) (q := 362) (p' := 32) (by decide +kernel) rfl (zn_k hz hw) (fun _ => ?_)) (mj_gd_pos (by decide) _)
      exact ms_vret (by decide +kernel)
theorem c_Z_roughen {sw : Bool} {w : mj_W} (hw : wk sw w) (f : mj_F) (z : Nat) (p : Nat) (hz : zn z = true) (hp : pn p) : mj_call yZ_roughen w f [.inr (.inl z), .inr (.inl p)] = if (f z 2) = 0 then mj_run yZ_roughen w f 10 [.inr (.inl z), .inr (.inl p), .inl 0, .inr (.inr (.inr 0))] [] else some (w, f, none) := by
  show mj_run yZ_roughen w f 0 [.inr (.inl z), .inr (.inl p), .inr (.inr (.inr 0)), .inr (.inr (.inr 0))] [] = _
  refine ms_aload_n (k := 0) (p' := 1) (by decide +kernel) rfl rfl ?_
  refine ms_geti (idx := 19) (ci := 7) (k := 2) (q := 362) (p' := 4) (by decide +kernel) rfl (zn_k hz hw) ?_
  refine ms_if_eq (off := 4) (t := 8) (p' := 7) (by decide +kernel) rfl (fun hc => ?_) (fun hc => ?_)
  · refine ms_iconst (n := 0) (v := 0) (p' := 9) (by decide +kernel) rfl ?_
    refine ms_istore_n (k := 2) (ls' := [.inr (.inl z), .inr (.inl p), .inl 0, .inr (.inr (.inr 0))]) (p' := 10) (by decide +kernel) rfl (Nat.le_of_ble_eq_true rfl) rfl ?_
    rfl
  · exact ms_vret (by decide +kernel)
theorem l_Z_roughen_10 {sw : Bool} {w : mj_W} (hw : wk sw w) (f : mj_F) (z : Nat) (p : Nat) (x2 : Int) (u3 : mj_V) (hz : zn z = true) (hp : pn p) : mj_run yZ_roughen w f 10 [.inr (.inl z), .inr (.inl p), .inl x2, u3] [] = if (f z 1) ≤ x2 then mj_bu (mj_call yZ_close w f [.inr (.inl z)]) (fun f1 => some (w, f1, none)) else mj_run yZ_roughen w f 20 [.inr (.inl z), .inr (.inl p), .inl x2, .inl 0] [] := by
  refine ms_iload_n (k := 2) (p' := 11) (by decide +kernel) rfl rfl ?_
  refine ms_aload_n (k := 0) (p' := 12) (by decide +kernel) rfl rfl ?_
  refine ms_geti (idx := 15) (ci := 7) (k := 1) (q := 360) (p' := 15) (by decide +kernel) rfl (zn_k hz hw) ?_
  refine ms_icmp_ge (off := 55) (t := 70) (p' := 18) (by decide +kernel) rfl (fun hc => ?_) (fun hc => ?_)
  · refine ms_aload_n (k := 0) (p' := 71) (by decide +kernel) rfl rfl ?_
    refine ms_virt_u (idx := 132) (cy := yZ_close) (n := 0) (a := z) (as := []) (rest := []) (p' := 74) (by decide +kernel) rfl rfl rfl rfl (zn_k hz hw) rfl (fun f1 => ?_)
    exact ms_vret (by decide +kernel)
  · refine ms_iconst (n := 0) (v := 0) (p' := 19) (by decide +kernel) rfl ?_
    refine ms_istore_n (k := 3) (ls' := [.inr (.inl z), .inr (.inl p), .inl x2, .inl 0]) (p' := 20) (by decide +kernel) rfl (Nat.le_of_ble_eq_true rfl) rfl ?_
    rfl
theorem l_Z_roughen_20 {sw : Bool} {w : mj_W} (hw : wk sw w) (f : mj_F) (z : Nat) (p : Nat) (x2 : Int) (x3 : Int) (hz : zn z = true) (hp : pn p) : mj_run yZ_roughen w f 20 [.inr (.inl z), .inr (.inl p), .inl x2, .inl x3] [] = if (f z 1) ≤ x3 then mj_run yZ_roughen w f 10 [.inr (.inl z), .inr (.inl p), .inl (mj_w (x2 + 1)), .inl x3] [] else if x2 = x3 then mj_run yZ_roughen w f 20 [.inr (.inl z), .inr (.inl p), .inl x2, .inl (mj_w (x3 + 1))] [] else mj_bi (mj_call yZ_cell w f [.inr (.inl z), .inl x2, .inl x3]) (fun f2 v3 => mj_bi (mj_call yZ_greatOf w f2 [.inr (.inl p), .inl x2]) (fun f4 v5 => mj_bi (mj_call yZ_greatOf w f4 [.inr (.inl p), .inl x3]) (fun f6 v7 => mj_bi (mj_call yZ_roughBound w f6 [.inl v3, .inl v5, .inl v7]) (fun f8 v9 => mj_bu (mj_call yZ_put w f8 [.inr (.inl z), .inl x2, .inl x3, .inl v9]) (fun f10 => mj_run yZ_roughen w f10 20 [.inr (.inl z), .inr (.inl p), .inl x2, .inl (mj_w (x3 + 1))] []))))) := by
  refine ms_iload_n (k := 3) (p' := 21) (by decide +kernel) rfl rfl ?_
  refine ms_aload_n (k := 0) (p' := 22) (by decide +kernel) rfl rfl ?_
  refine ms_geti (idx := 15) (ci := 7) (k := 1) (q := 360) (p' := 25) (by decide +kernel) rfl (zn_k hz hw) ?_
  refine ms_icmp_ge (off := 39) (t := 64) (p' := 28) (by decide +kernel) rfl (fun hc => ?_) (fun hc => ?_)
  · refine ms_iinc (k := 2) (n := 1) (ls' := [.inr (.inl z), .inr (.inl p), .inl (mj_w (x2 + 1)), .inl x3]) (p' := 67) (by decide +kernel) rfl rfl rfl ?_
    refine ms_goto (off := (-57)) (p' := 10) (by decide +kernel) ?_
    rfl
  · refine ms_iload_n (k := 2) (p' := 29) (by decide +kernel) rfl rfl ?_
    refine ms_iload_n (k := 3) (p' := 30) (by decide +kernel) rfl rfl ?_
    refine ms_icmp_eq (off := 28) (t := 58) (p' := 33) (by decide +kernel) rfl (fun hc => ?_) (fun hc => ?_)
    · refine ms_iinc (k := 3) (n := 1) (ls' := [.inr (.inl z), .inr (.inl p), .inl x2, .inl (mj_w (x3 + 1))]) (p' := 61) (by decide +kernel) rfl rfl rfl ?_
      refine ms_goto (off := (-41)) (p' := 20) (by decide +kernel) ?_
      rfl
    · refine ms_aload_n (k := 0) (p' := 34) (by decide +kernel) rfl rfl ?_
      refine ms_iload_n (k := 2) (p' := 35) (by decide +kernel) rfl rfl ?_
      refine ms_iload_n (k := 3) (p' := 36) (by decide +kernel) rfl rfl ?_
      refine ms_aload_n (k := 0) (p' := 37) (by decide +kernel) rfl rfl ?_
      refine ms_iload_n (k := 2) (p' := 38) (by decide +kernel) rfl rfl ?_
      refine ms_iload_n (k := 3) (p' := 39) (by decide +kernel) rfl rfl ?_
      refine ms_virt_i (idx := 29) (cy := yZ_cell) (n := 2) (a := z) (as := [.inl x2, .inl x3]) (rest := [.inl x3, .inl x2, .inr (.inl z)]) (p' := 42) (by decide +kernel) rfl rfl rfl rfl (zn_k hz hw) rfl (fun f2 v3 => ?_)
      refine ms_aload_n (k := 1) (p' := 43) (by decide +kernel) rfl rfl ?_
      refine ms_iload_n (k := 2) (p' := 44) (by decide +kernel) rfl rfl ?_
      refine ms_stat_i (idx := 135) (cy := yZ_greatOf) (n := 2) (as := [.inr (.inl p), .inl x2]) (rest := [.inl v3, .inl x3, .inl x2, .inr (.inl z)]) (p' := 47) (by decide +kernel) rfl rfl rfl rfl rfl (fun f4 v5 => ?_)
      refine ms_aload_n (k := 1) (p' := 48) (by decide +kernel) rfl rfl ?_
      refine ms_iload_n (k := 3) (p' := 49) (by decide +kernel) rfl rfl ?_
      refine ms_stat_i (idx := 135) (cy := yZ_greatOf) (n := 2) (as := [.inr (.inl p), .inl x3]) (rest := [.inl v5, .inl v3, .inl x3, .inl x2, .inr (.inl z)]) (p' := 52) (by decide +kernel) rfl rfl rfl rfl rfl (fun f6 v7 => ?_)
      refine ms_stat_i (idx := 139) (cy := yZ_roughBound) (n := 3) (as := [.inl v3, .inl v5, .inl v7]) (rest := [.inl x3, .inl x2, .inr (.inl z)]) (p' := 55) (by decide +kernel) rfl rfl rfl rfl rfl (fun f8 v9 => ?_)
      refine ms_virt_u (idx := 54) (cy := yZ_put) (n := 3) (a := z) (as := [.inl x2, .inl x3, .inl v9]) (rest := []) (p' := 58) (by decide +kernel) rfl rfl rfl rfl (zn_k hz hw) rfl (fun f10 => ?_)
      refine ms_iinc (k := 3) (n := 1) (ls' := [.inr (.inl z), .inr (.inl p), .inl x2, .inl (mj_w (x3 + 1))]) (p' := 61) (by decide +kernel) rfl rfl rfl ?_
      refine ms_goto (off := (-41)) (p' := 20) (by decide +kernel) ?_
      rfl
theorem c_Z_become {sw : Bool} {w : mj_W} (hw : wk sw w) (f : mj_F) (z : Nat) (z1 : Nat) (hz : zn z = true) (hz1 : zn z1 = true) : mj_call yZ_become w f [.inr (.inl z), .inr (.inl z1)] = mj_gd ((mj_u f z 1 (f z1 1) z1 2) = 0 ∨ (mj_u f z 1 (f z1 1) z1 2) = 1) (mj_gd (0 ≤ ((36 : Nat) : Int) ∧ 0 ≤ (0 : Int) ∧ 0 ≤ (0 : Int) ∧ (0 : Int) + ((36 : Nat) : Int) ≤ ((36 : Nat) : Int) ∧ (0 : Int) + ((36 : Nat) : Int) ≤ ((36 : Nat) : Int)) (some (w, (mj_cpy (mj_u (mj_u f z 1 (f z1 1)) z 2 (mj_u f z 1 (f z1 1) z1 2)) (z1 + 1) (0 : Int).toNat (z + 1) (0 : Int).toNat ((36 : Nat) : Int).toNat), none))) := by
  show mj_run yZ_become w f 0 [.inr (.inl z), .inr (.inl z1)] [] = _
  refine ms_aload_n (k := 0) (p' := 1) (by decide +kernel) rfl rfl ?_
  refine ms_aload_n (k := 1) (p' := 2) (by decide +kernel) rfl rfl ?_
  refine ms_geti (idx := 15) (ci := 7) (k := 1) (q := 360) (p' := 5) (by decide +kernel) rfl (zn_k hz1 hw) ?_
  refine ms_puti (idx := 15) (ci := 7) (k := 1) (q := 360) (p' := 8) (by decide +kernel) rfl (zn_k hz hw) ?_
  refine ms_aload_n (k := 0) (p' := 9) (by decide +kernel) rfl rfl ?_
  refine ms_aload_n (k := 1) (p' := 10) (by decide +kernel) rfl rfl ?_
  refine ms_geti (idx := 19) (ci := 7) (k := 2) (q := 362) (p' := 13) (by decide +kernel) rfl (zn_k hz1 hw) ?_
  refine ms_putz (idx := 19) (ci := 7) (k := 2) (q := 362) (p' := 16) (by decide +kernel) rfl (zn_k hz hw) (fun hz_ => ?_)
  refine ms_aload_n (k := 1) (p' := 17) (by decide +kernel) rfl rfl ?_
  refine ms_getr (idx := 9) (ci := 7) (k := 0) (q := 359) (p' := 20) (by decide +kernel) rfl (zn_k hz1 hw) (zn_r hz1 hw) (nz1 _) ?_
  refine ms_iconst (n := 0) (v := 0) (p' := 21) (by decide +kernel) rfl ?_
  refine ms_aload_n (k := 0) (p' := 22) (by decide +kernel) rfl rfl ?_
  refine ms_getr (idx := 9) (ci := 7) (k := 0) (q := 359) (p' := 25) (by decide +kernel) rfl (zn_k hz hw) (zn_r hz hw) (nz1 _) ?_
  refine ms_iconst (n := 0) (v := 0) (p' := 26) (by decide +kernel) rfl ?_
  refine ms_aload_n (k := 0) (p' := 27) (by decide +kernel) rfl rfl ?_
  refine ms_getr (idx := 9) (ci := 7) (k := 0) (q := 359) (p' := 30) (by decide +kernel) rfl (zn_k hz hw) (zn_r hz hw) (nz1 _) ?_
  refine ms_alen (p' := 31) (by decide +kernel) rfl (zn_c hz hw) (by decide) ?_
  refine ms_copy (idx := 44) (x := 0) (q := 767) (p' := 34) (by decide +kernel) rfl rfl (zn_c hz1 hw) (zn_c hz hw) (fun hj1 => ?_)
  exact ms_vret (by decide +kernel)
theorem c_Z_assign {sw : Bool} {w : mj_W} (hw : wk sw w) (f : mj_F) (z : Nat) (x1 : Int) (x2 : Int) (hz : zn z = true) : mj_call yZ_assign w f [.inr (.inl z), .inl x1, .inl x2] = mj_run yZ_assign w f 2 [.inr (.inl z), .inl x1, .inl x2, .inl 0] [] := by
  show mj_run yZ_assign w f 0 [.inr (.inl z), .inl x1, .inl x2, .inr (.inr (.inr 0))] [] = _
  refine ms_iconst (n := 0) (v := 0) (p' := 1) (by decide +kernel) rfl ?_
  refine ms_istore_n (k := 3) (ls' := [.inr (.inl z), .inl x1, .inl x2, .inl 0]) (p' := 2) (by decide +kernel) rfl (Nat.le_of_ble_eq_true rfl) rfl ?_
  rfl
theorem l_Z_assign_2 {sw : Bool} {w : mj_W} (hw : wk sw w) (f : mj_F) (z : Nat) (x1 : Int) (x2 : Int) (x3 : Int) (hz : zn z = true) : mj_run yZ_assign w f 2 [.inr (.inl z), .inl x1, .inl x2, .inl x3] [] = if (f z 1) ≤ x3 then some (w, f, none) else if x3 = x1 then mj_run yZ_assign w f 2 [.inr (.inl z), .inl x1, .inl x2, .inl (mj_w (x3 + 1))] [] else mj_bi (mj_call yX_atMost w f [.inl x2]) (fun f1 v2 => mj_bi (mj_call yZ_cell w f1 [.inr (.inl z), .inl 0, .inl x3]) (fun f3 v4 => mj_bi (mj_call yX_sumOf w f3 [.inl v2, .inl v4]) (fun f5 v6 => mj_bu (mj_call yZ_put w f5 [.inr (.inl z), .inl x1, .inl x3, .inl v6]) (fun f7 => mj_bi (mj_call yZ_cell w f7 [.inr (.inl z), .inl x3, .inl 0]) (fun f8 v9 => mj_bi (mj_call yX_atMost w f8 [.inl (mj_w (-x2))]) (fun f10 v11 => mj_bi (mj_call yX_sumOf w f10 [.inl v9, .inl v11]) (fun f12 v13 => mj_bu (mj_call yZ_put w f12 [.inr (.inl z), .inl x3, .inl x1, .inl v13]) (fun f14 => mj_run yZ_assign w f14 2 [.inr (.inl z), .inl x1, .inl x2, .inl (mj_w (x3 + 1))] [])))))))) := by
  refine ms_iload_n (k := 3) (p' := 3) (by decide +kernel) rfl rfl ?_
  refine ms_aload_n (k := 0) (p' := 4) (by decide +kernel) rfl rfl ?_
  refine ms_geti (idx := 15) (ci := 7) (k := 1) (q := 360) (p' := 7) (by decide +kernel) rfl (zn_k hz hw) ?_
  refine ms_icmp_ge (off := 53) (t := 60) (p' := 10) (by decide +kernel) rfl (fun hc => ?_) (fun hc => ?_)
  · exact ms_vret (by decide +kernel)
  · refine ms_iload_n (k := 3) (p' := 11) (by decide +kernel) rfl rfl ?_
    refine ms_iload_n (k := 1) (p' := 12) (by decide +kernel) rfl rfl ?_
    refine ms_icmp_eq (off := 42) (t := 54) (p' := 15) (by decide +kernel) rfl (fun hc => ?_) (fun hc => ?_)
    · refine ms_iinc (k := 3) (n := 1) (ls' := [.inr (.inl z), .inl x1, .inl x2, .inl (mj_w (x3 + 1))]) (p' := 57) (by decide +kernel) rfl rfl rfl ?_
      refine ms_goto (off := (-55)) (p' := 2) (by decide +kernel) ?_
      rfl
    · refine ms_aload_n (k := 0) (p' := 16) (by decide +kernel) rfl rfl ?_
      refine ms_iload_n (k := 1) (p' := 17) (by decide +kernel) rfl rfl ?_
      refine ms_iload_n (k := 3) (p' := 18) (by decide +kernel) rfl rfl ?_
      refine ms_iload_n (k := 2) (p' := 19) (by decide +kernel) rfl rfl ?_
      refine ms_stat_i (idx := 103) (cy := yX_atMost) (n := 1) (as := [.inl x2]) (rest := [.inl x3, .inl x1, .inr (.inl z)]) (p' := 22) (by decide +kernel) rfl rfl rfl rfl rfl (fun f1 v2 => ?_)
      refine ms_aload_n (k := 0) (p' := 23) (by decide +kernel) rfl rfl ?_
      refine ms_iconst (n := 0) (v := 0) (p' := 24) (by decide +kernel) rfl ?_
      refine ms_iload_n (k := 3) (p' := 25) (by decide +kernel) rfl rfl ?_
      refine ms_virt_i (idx := 29) (cy := yZ_cell) (n := 2) (a := z) (as := [.inl 0, .inl x3]) (rest := [.inl v2, .inl x3, .inl x1, .inr (.inl z)]) (p' := 28) (by decide +kernel) rfl rfl rfl rfl (zn_k hz hw) rfl (fun f3 v4 => ?_)
      refine ms_stat_i (idx := 71) (cy := yX_sumOf) (n := 2) (as := [.inl v2, .inl v4]) (rest := [.inl x3, .inl x1, .inr (.inl z)]) (p' := 31) (by decide +kernel) rfl rfl rfl rfl rfl (fun f5 v6 => ?_)
      refine ms_virt_u (idx := 54) (cy := yZ_put) (n := 3) (a := z) (as := [.inl x1, .inl x3, .inl v6]) (rest := []) (p' := 34) (by decide +kernel) rfl rfl rfl rfl (zn_k hz hw) rfl (fun f7 => ?_)
      refine ms_aload_n (k := 0) (p' := 35) (by decide +kernel) rfl rfl ?_
      refine ms_iload_n (k := 3) (p' := 36) (by decide +kernel) rfl rfl ?_
      refine ms_iload_n (k := 1) (p' := 37) (by decide +kernel) rfl rfl ?_
      refine ms_aload_n (k := 0) (p' := 38) (by decide +kernel) rfl rfl ?_
      refine ms_iload_n (k := 3) (p' := 39) (by decide +kernel) rfl rfl ?_
      refine ms_iconst (n := 0) (v := 0) (p' := 40) (by decide +kernel) rfl ?_
      refine ms_virt_i (idx := 29) (cy := yZ_cell) (n := 2) (a := z) (as := [.inl x3, .inl 0]) (rest := [.inl x1, .inl x3, .inr (.inl z)]) (p' := 43) (by decide +kernel) rfl rfl rfl rfl (zn_k hz hw) rfl (fun f8 v9 => ?_)
      refine ms_iload_n (k := 2) (p' := 44) (by decide +kernel) rfl rfl ?_
      refine ms_ineg (p' := 45) (by decide +kernel) rfl ?_
      refine ms_stat_i (idx := 103) (cy := yX_atMost) (n := 1) (as := [.inl (mj_w (-x2))]) (rest := [.inl v9, .inl x1, .inl x3, .inr (.inl z)]) (p' := 48) (by decide +kernel) rfl rfl rfl rfl rfl (fun f10 v11 => ?_)
      refine ms_stat_i (idx := 71) (cy := yX_sumOf) (n := 2) (as := [.inl v9, .inl v11]) (rest := [.inl x1, .inl x3, .inr (.inl z)]) (p' := 51) (by decide +kernel) rfl rfl rfl rfl rfl (fun f12 v13 => ?_)
      refine ms_virt_u (idx := 54) (cy := yZ_put) (n := 3) (a := z) (as := [.inl x3, .inl x1, .inl v13]) (rest := []) (p' := 54) (by decide +kernel) rfl rfl rfl rfl (zn_k hz hw) rfl (fun f14 => ?_)
      refine ms_iinc (k := 3) (n := 1) (ls' := [.inr (.inl z), .inl x1, .inl x2, .inl (mj_w (x3 + 1))]) (p' := 57) (by decide +kernel) rfl rfl rfl ?_
      refine ms_goto (off := (-55)) (p' := 2) (by decide +kernel) ?_
      rfl
theorem c_Z_applySets {sw : Bool} {w : mj_W} (hw : wk sw w) (f : mj_F) (z : Nat) (p : Nat) (x2 : Int) (hz : zn z = true) (hp : pn p) : mj_call yZ_applySets w f [.inr (.inl z), .inr (.inl p), .inl x2] = mj_run yZ_applySets w f 2 [.inr (.inl z), .inr (.inl p), .inl x2, .inl 0, .inr (.inr (.inr 0))] [] := by
  show mj_run yZ_applySets w f 0 [.inr (.inl z), .inr (.inl p), .inl x2, .inr (.inr (.inr 0)), .inr (.inr (.inr 0))] [] = _
  refine ms_iconst (n := 0) (v := 0) (p' := 1) (by decide +kernel) rfl ?_
  refine ms_istore_n (k := 3) (ls' := [.inr (.inl z), .inr (.inl p), .inl x2, .inl 0, .inr (.inr (.inr 0))]) (p' := 2) (by decide +kernel) rfl (Nat.le_of_ble_eq_true rfl) rfl ?_
  rfl
theorem l_Z_applySets_2 {sw : Bool} {w : mj_W} (hw : wk sw w) (f : mj_F) (z : Nat) (p : Nat) (x2 : Int) (x3 : Int) (u4 : mj_V) (hz : zn z = true) (hp : pn p) : mj_run yZ_applySets w f 2 [.inr (.inl z), .inr (.inl p), .inl x2, .inl x3, u4] [] = mj_gd (0 ≤ x2 ∧ x2 < ((16 : Nat) : Int)) (if (f (p + 10) x2.toNat) ≤ x3 then some (w, f, none) else mj_gd (0 ≤ (mj_w ((mj_w (x2 * 4)) + x3)) ∧ (mj_w ((mj_w (x2 * 4)) + x3)) < ((64 : Nat) : Int)) (mj_gd (0 ≤ (mj_w ((mj_w (x2 * 4)) + x3)) ∧ (mj_w ((mj_w (x2 * 4)) + x3)) < ((64 : Nat) : Int)) (mj_bu (mj_call yZ_assign w f [.inr (.inl z), .inl (mj_w ((f (p + 11) (mj_w ((mj_w (x2 * 4)) + x3)).toNat) + 1)), .inl (f (p + 12) (mj_w ((mj_w (x2 * 4)) + x3)).toNat)]) (fun f4 => mj_run yZ_applySets w f4 2 [.inr (.inl z), .inr (.inl p), .inl x2, .inl (mj_w (x3 + 1)), .inl (mj_w ((mj_w (x2 * 4)) + x3))] [])))) := by
  refine ms_iload_n (k := 3) (p' := 3) (by decide +kernel) rfl rfl ?_
  refine ms_aload_n (k := 1) (p' := 4) (by decide +kernel) rfl rfl ?_
  refine ms_getr (idx := 94) (ci := 3) (k := 15) (q := 264) (p' := 7) (by decide +kernel) rfl (pn_k hp hw) (pn_r15 hp hw) (by omega) ?_
  refine ms_iload_n (k := 2) (p' := 8) (by decide +kernel) rfl rfl ?_
  refine ms_iald (p' := 9) (by decide +kernel) rfl (pn_k15 hp hw) (fun hj1 => ?_)
  refine ms_icmp_ge (off := 36) (t := 45) (p' := 12) (by decide +kernel) rfl (fun hc => ?_) (fun hc => ?_)
  · exact ms_vret (by decide +kernel)
  · refine ms_iload_n (k := 2) (p' := 13) (by decide +kernel) rfl rfl ?_
    refine ms_iconst (n := 4) (v := 4) (p' := 14) (by decide +kernel) rfl ?_
    refine ms_imul (p' := 15) (by decide +kernel) rfl ?_
    refine ms_iload_n (k := 3) (p' := 16) (by decide +kernel) rfl rfl ?_
    refine ms_iadd (p' := 17) (by decide +kernel) rfl ?_
    refine ms_istore (k := 4) (ls' := [.inr (.inl z), .inr (.inl p), .inl x2, .inl x3, .inl (mj_w ((mj_w (x2 * 4)) + x3))]) (p' := 19) (by decide +kernel) rfl (Nat.le_of_ble_eq_true rfl) rfl ?_
    refine ms_aload_n (k := 0) (p' := 20) (by decide +kernel) rfl rfl ?_
    refine ms_aload_n (k := 1) (p' := 21) (by decide +kernel) rfl rfl ?_
    refine ms_getr (idx := 97) (ci := 3) (k := 16) (q := 268) (p' := 24) (by decide +kernel) rfl (pn_k hp hw) (pn_r16 hp hw) (by omega) ?_
    refine ms_iload (k := 4) (p' := 26) (by decide +kernel) rfl rfl ?_
    refine ms_iald (p' := 27) (by decide +kernel) rfl (pn_k16 hp hw) (fun hj2 => ?_)
    refine ms_iconst (n := 1) (v := 1) (p' := 28) (by decide +kernel) rfl ?_
    refine ms_iadd (p' := 29) (by decide +kernel) rfl ?_
    refine ms_aload_n (k := 1) (p' := 30) (by decide +kernel) rfl rfl ?_
    refine ms_getr (idx := 100) (ci := 3) (k := 17) (q := 272) (p' := 33) (by decide +kernel) rfl (pn_k hp hw) (pn_r17 hp hw) (by omega) ?_
    refine ms_iload (k := 4) (p' := 35) (by decide +kernel) rfl rfl ?_
    refine ms_iald (p' := 36) (by decide +kernel) rfl (pn_k17 hp hw) (fun hj3 => ?_)
    refine ms_virt_u (idx := 58) (cy := yZ_assign) (n := 2) (a := z) (as := [.inl (mj_w ((f (p + 11) (mj_w ((mj_w (x2 * 4)) + x3)).toNat) + 1)), .inl (f (p + 12) (mj_w ((mj_w (x2 * 4)) + x3)).toNat)]) (rest := []) (p' := 39) (by decide +kernel) rfl rfl rfl rfl (zn_k hz hw) rfl (fun f4 => ?_)
    refine ms_iinc (k := 3) (n := 1) (ls' := [.inr (.inl z), .inr (.inl p), .inl x2, .inl (mj_w (x3 + 1)), .inl (mj_w ((mj_w (x2 * 4)) + x3))]) (p' := 42) (by decide +kernel) rfl rfl rfl ?_
    refine ms_goto (off := (-40)) (p' := 2) (by decide +kernel) ?_
    rfl
theorem c_Z_stepBy {sw : Bool} {w : mj_W} (hw : wk sw w) (f : mj_F) (z : Nat) (p : Nat) (x2 : Int) (hz : zn z = true) (hp : pn p) : mj_call yZ_stepBy w f [.inr (.inl z), .inr (.inl p), .inl x2] = mj_gd (0 ≤ x2 ∧ x2 < ((16 : Nat) : Int)) (mj_bi (mj_call yX_stayRules w f [.inl (f (p + 9) x2.toNat)]) (fun f2 v3 => mj_bi (mj_call yX_edgeRules w f2 [.inl x2]) (fun f4 v5 => mj_bu (mj_call yZ_keepRules w f4 [.inr (.inl z), .inr (.inl p), .inl v5]) (fun f6 => mj_bu (mj_call yZ_applySets w f6 [.inr (.inl z), .inr (.inl p), .inl x2]) (fun f7 => mj_bu (mj_call yZ_keepRules w f7 [.inr (.inl z), .inr (.inl p), .inl v3]) (fun f8 => mj_bu (mj_call yZ_goUp w f8 [.inr (.inl z)]) (fun f9 => mj_bu (mj_call yZ_keepRules w f9 [.inr (.inl z), .inr (.inl p), .inl v3]) (fun f10 => some (w, f10, none))))))))) := by
  show mj_run yZ_stepBy w f 0 [.inr (.inl z), .inr (.inl p), .inl x2, .inr (.inr (.inr 0))] [] = _
  refine ms_aload_n (k := 1) (p' := 1) (by decide +kernel) rfl rfl ?_
  refine ms_getr (idx := 116) (ci := 3) (k := 14) (q := 260) (p' := 4) (by decide +kernel) rfl (pn_k hp hw) (pn_r14 hp hw) (by omega) ?_
  refine ms_iload_n (k := 2) (p' := 5) (by decide +kernel) rfl rfl ?_
  refine ms_iald (p' := 6) (by decide +kernel) rfl (pn_k14 hp hw) (fun hj1 => ?_)
  refine ms_stat_i (idx := 106) (cy := yX_stayRules) (n := 1) (as := [.inl (f (p + 9) x2.toNat)]) (rest := []) (p' := 9) (by decide +kernel) rfl rfl rfl rfl rfl (fun f2 v3 => ?_)
  refine ms_istore_n (k := 3) (ls' := [.inr (.inl z), .inr (.inl p), .inl x2, .inl v3]) (p' := 10) (by decide +kernel) rfl (Nat.le_of_ble_eq_true rfl) rfl ?_
  refine ms_aload_n (k := 0) (p' := 11) (by decide +kernel) rfl rfl ?_
  refine ms_aload_n (k := 1) (p' := 12) (by decide +kernel) rfl rfl ?_
  refine ms_iload_n (k := 2) (p' := 13) (by decide +kernel) rfl rfl ?_
  refine ms_stat_i (idx := 119) (cy := yX_edgeRules) (n := 1) (as := [.inl x2]) (rest := [.inr (.inl p), .inr (.inl z)]) (p' := 16) (by decide +kernel) rfl rfl rfl rfl rfl (fun f4 v5 => ?_)
  refine ms_virt_u (idx := 109) (cy := yZ_keepRules) (n := 2) (a := z) (as := [.inr (.inl p), .inl v5]) (rest := []) (p' := 19) (by decide +kernel) rfl rfl rfl rfl (zn_k hz hw) rfl (fun f6 => ?_)
  refine ms_aload_n (k := 0) (p' := 20) (by decide +kernel) rfl rfl ?_
  refine ms_aload_n (k := 1) (p' := 21) (by decide +kernel) rfl rfl ?_
  refine ms_iload_n (k := 2) (p' := 22) (by decide +kernel) rfl rfl ?_
  refine ms_virt_u (idx := 122) (cy := yZ_applySets) (n := 2) (a := z) (as := [.inr (.inl p), .inl x2]) (rest := []) (p' := 25) (by decide +kernel) rfl rfl rfl rfl (zn_k hz hw) rfl (fun f7 => ?_)
  refine ms_aload_n (k := 0) (p' := 26) (by decide +kernel) rfl rfl ?_
  refine ms_aload_n (k := 1) (p' := 27) (by decide +kernel) rfl rfl ?_
  refine ms_iload_n (k := 3) (p' := 28) (by decide +kernel) rfl rfl ?_
  refine ms_virt_u (idx := 109) (cy := yZ_keepRules) (n := 2) (a := z) (as := [.inr (.inl p), .inl v3]) (rest := []) (p' := 31) (by decide +kernel) rfl rfl rfl rfl (zn_k hz hw) rfl (fun f8 => ?_)
  refine ms_aload_n (k := 0) (p' := 32) (by decide +kernel) rfl rfl ?_
  refine ms_virt_u (idx := 113) (cy := yZ_goUp) (n := 0) (a := z) (as := []) (rest := []) (p' := 35) (by decide +kernel) rfl rfl rfl rfl (zn_k hz hw) rfl (fun f9 => ?_)
  refine ms_aload_n (k := 0) (p' := 36) (by decide +kernel) rfl rfl ?_
  refine ms_aload_n (k := 1) (p' := 37) (by decide +kernel) rfl rfl ?_
  refine ms_iload_n (k := 3) (p' := 38) (by decide +kernel) rfl rfl ?_
  refine ms_virt_u (idx := 109) (cy := yZ_keepRules) (n := 2) (a := z) (as := [.inr (.inl p), .inl v3]) (rest := []) (p' := 41) (by decide +kernel) rfl rfl rfl rfl (zn_k hz hw) rfl (fun f10 => ?_)
  exact ms_vret (by decide +kernel)
theorem c_Z_covers {sw : Bool} {w : mj_W} (hw : wk sw w) (f : mj_F) (z : Nat) (z1 : Nat) (hz : zn z = true) (hz1 : zn z1 = true) : mj_call yZ_covers w f [.inr (.inl z), .inr (.inl z1)] = if ¬ (f z 2) = 0 then mj_gd ((f z1 2) = 0 ∨ (f z1 2) = 1) (some (w, f, some (.inl (f z1 2)))) else if (f z1 2) = 0 then mj_run yZ_covers w f 21 [.inr (.inl z), .inr (.inl z1), .inl 0, .inr (.inr (.inr 0))] [] else mj_gd ((f z1 2) = 0 ∨ (f z1 2) = 1) (some (w, f, some (.inl (f z1 2)))) := by
  show mj_run yZ_covers w f 0 [.inr (.inl z), .inr (.inl z1), .inr (.inr (.inr 0)), .inr (.inr (.inr 0))] [] = _
  refine ms_aload_n (k := 0) (p' := 1) (by decide +kernel) rfl rfl ?_
  refine ms_geti (idx := 19) (ci := 7) (k := 2) (q := 362) (p' := 4) (by decide +kernel) rfl (zn_k hz hw) ?_
  refine ms_if_ne (off := 10) (t := 14) (p' := 7) (by decide +kernel) rfl (fun hc => ?_) (fun hc => ?_)
  · refine ms_aload_n (k := 1) (p' := 15) (by decide +kernel) rfl rfl ?_
    refine ms_geti (idx := 19) (ci := 7) (k := 2) (q := 362) (p' := 18) (by decide +kernel) rfl (zn_k hz1 hw) ?_
    exact ms_zret (by decide +kernel)
  · refine ms_aload_n (k := 1) (p' := 8) (by decide +kernel) rfl rfl ?_
    refine ms_geti (idx := 19) (ci := 7) (k := 2) (q := 362) (p' := 11) (by decide +kernel) rfl (zn_k hz1 hw) ?_
    refine ms_if_eq (off := 8) (t := 19) (p' := 14) (by decide +kernel) rfl (fun hc => ?_) (fun hc => ?_)
    · refine ms_iconst (n := 0) (v := 0) (p' := 20) (by decide +kernel) rfl ?_
      refine ms_istore_n (k := 2) (ls' := [.inr (.inl z), .inr (.inl z1), .inl 0, .inr (.inr (.inr 0))]) (p' := 21) (by decide +kernel) rfl (Nat.le_of_ble_eq_true rfl) rfl ?_
      rfl
    · refine ms_aload_n (k := 1) (p' := 15) (by decide +kernel) rfl rfl ?_
      refine ms_geti (idx := 19) (ci := 7) (k := 2) (q := 362) (p' := 18) (by decide +kernel) rfl (zn_k hz1 hw) ?_
      exact ms_zret (by decide +kernel)
theorem l_Z_covers_21 {sw : Bool} {w : mj_W} (hw : wk sw w) (f : mj_F) (z : Nat) (z1 : Nat) (x2 : Int) (u3 : mj_V) (hz : zn z = true) (hz1 : zn z1 = true) : mj_run yZ_covers w f 21 [.inr (.inl z), .inr (.inl z1), .inl x2, u3] [] = if (f z 1) ≤ x2 then some (w, f, some (.inl 1)) else mj_run yZ_covers w f 31 [.inr (.inl z), .inr (.inl z1), .inl x2, .inl 0] [] := by
  refine ms_iload_n (k := 2) (p' := 22) (by decide +kernel) rfl rfl ?_
  refine ms_aload_n (k := 0) (p' := 23) (by decide +kernel) rfl rfl ?_
  refine ms_geti (idx := 15) (ci := 7) (k := 1) (q := 360) (p' := 26) (by decide +kernel) rfl (zn_k hz hw) ?_
  refine ms_icmp_ge (off := 42) (t := 68) (p' := 29) (by decide +kernel) rfl (fun hc => ?_) (fun hc => ?_)
  · refine ms_iconst (n := 1) (v := 1) (p' := 69) (by decide +kernel) rfl ?_
    exact (ms_zret (by decide +kernel)).trans (mj_gd_pos (by decide) _)
  · refine ms_iconst (n := 0) (v := 0) (p' := 30) (by decide +kernel) rfl ?_
    refine ms_istore_n (k := 3) (ls' := [.inr (.inl z), .inr (.inl z1), .inl x2, .inl 0]) (p' := 31) (by decide +kernel) rfl (Nat.le_of_ble_eq_true rfl) rfl ?_
    rfl
theorem l_Z_covers_31 {sw : Bool} {w : mj_W} (hw : wk sw w) (f : mj_F) (z : Nat) (z1 : Nat) (x2 : Int) (x3 : Int) (hz : zn z = true) (hz1 : zn z1 = true) : mj_run yZ_covers w f 31 [.inr (.inl z), .inr (.inl z1), .inl x2, .inl x3] [] = if (f z 1) ≤ x3 then mj_run yZ_covers w f 21 [.inr (.inl z), .inr (.inl z1), .inl (mj_w (x2 + 1)), .inl x3] [] else mj_bi (mj_call yZ_cell w f [.inr (.inl z1), .inl x2, .inl x3]) (fun f1 v2 => mj_bi (mj_call yZ_cell w f1 [.inr (.inl z), .inl x2, .inl x3]) (fun f3 v4 => if v2 ≤ v4 then mj_run yZ_covers w f3 31 [.inr (.inl z), .inr (.inl z1), .inl x2, .inl (mj_w (x3 + 1))] [] else some (w, f3, some (.inl 0)))) := by
  refine ms_iload_n (k := 3) (p' := 32) (by decide +kernel) rfl rfl ?_
  refine ms_aload_n (k := 0) (p' := 33) (by decide +kernel) rfl rfl ?_
  refine ms_geti (idx := 15) (ci := 7) (k := 1) (q := 360) (p' := 36) (by decide +kernel) rfl (zn_k hz hw) ?_
  refine ms_icmp_ge (off := 26) (t := 62) (p' := 39) (by decide +kernel) rfl (fun hc => ?_) (fun hc => ?_)
  · refine ms_iinc (k := 2) (n := 1) (ls' := [.inr (.inl z), .inr (.inl z1), .inl (mj_w (x2 + 1)), .inl x3]) (p' := 65) (by decide +kernel) rfl rfl rfl ?_
    refine ms_goto (off := (-44)) (p' := 21) (by decide +kernel) ?_
    rfl
  · refine ms_aload_n (k := 1) (p' := 40) (by decide +kernel) rfl rfl ?_
    refine ms_iload_n (k := 2) (p' := 41) (by decide +kernel) rfl rfl ?_
    refine ms_iload_n (k := 3) (p' := 42) (by decide +kernel) rfl rfl ?_
    refine ms_virt_i (idx := 29) (cy := yZ_cell) (n := 2) (a := z1) (as := [.inl x2, .inl x3]) (rest := []) (p' := 45) (by decide +kernel) rfl rfl rfl rfl (zn_k hz1 hw) rfl (fun f1 v2 => ?_)
    refine ms_aload_n (k := 0) (p' := 46) (by decide +kernel) rfl rfl ?_
    refine ms_iload_n (k := 2) (p' := 47) (by decide +kernel) rfl rfl ?_
    refine ms_iload_n (k := 3) (p' := 48) (by decide +kernel) rfl rfl ?_
    refine ms_virt_i (idx := 29) (cy := yZ_cell) (n := 2) (a := z) (as := [.inl x2, .inl x3]) (rest := [.inl v2]) (p' := 51) (by decide +kernel) rfl rfl rfl rfl (zn_k hz hw) rfl (fun f3 v4 => ?_)
    refine ms_icmp_le (off := 5) (t := 56) (p' := 54) (by decide +kernel) rfl (fun hc => ?_) (fun hc => ?_)
    · refine ms_iinc (k := 3) (n := 1) (ls' := [.inr (.inl z), .inr (.inl z1), .inl x2, .inl (mj_w (x3 + 1))]) (p' := 59) (by decide +kernel) rfl rfl rfl ?_
      refine ms_goto (off := (-28)) (p' := 31) (by decide +kernel) ?_
      rfl
    · refine ms_iconst (n := 0) (v := 0) (p' := 55) (by decide +kernel) rfl ?_
      exact (ms_zret (by decide +kernel)).trans (mj_gd_pos (by decide) _)
theorem c_L_edgesFrom {sw : Bool} {w : mj_W} (hw : wk sw w) (f : mj_F) (p : Nat) (x1 : Int) (hp : pn p) : mj_call yL_edgesFrom w f [.inr (.inl p), .inl x1] = mj_run yL_edgesFrom w f 4 [.inr (.inl p), .inl x1, .inl 0, .inl 0] [] := by
  show mj_run yL_edgesFrom w f 0 [.inr (.inl p), .inl x1, .inr (.inr (.inr 0)), .inr (.inr (.inr 0))] [] = _
  refine ms_iconst (n := 0) (v := 0) (p' := 1) (by decide +kernel) rfl ?_
  refine ms_istore_n (k := 2) (ls' := [.inr (.inl p), .inl x1, .inl 0, .inr (.inr (.inr 0))]) (p' := 2) (by decide +kernel) rfl (Nat.le_of_ble_eq_true rfl) rfl ?_
  refine ms_iconst (n := 0) (v := 0) (p' := 3) (by decide +kernel) rfl ?_
  refine ms_istore_n (k := 3) (ls' := [.inr (.inl p), .inl x1, .inl 0, .inl 0]) (p' := 4) (by decide +kernel) rfl (Nat.le_of_ble_eq_true rfl) rfl ?_
  rfl
theorem l_L_edgesFrom_4 {sw : Bool} {w : mj_W} (hw : wk sw w) (f : mj_F) (p : Nat) (x1 : Int) (x2 : Int) (x3 : Int) (hp : pn p) : mj_run yL_edgesFrom w f 4 [.inr (.inl p), .inl x1, .inl x2, .inl x3] [] = if (f p 3) ≤ x3 then some (w, f, some (.inl x2)) else mj_gd (0 ≤ x3 ∧ x3 < ((16 : Nat) : Int)) (if ¬ (f (p + 8) x3.toNat) = x1 then mj_run yL_edgesFrom w f 4 [.inr (.inl p), .inl x1, .inl (mj_w (x2 + 0)), .inl (mj_w (x3 + 1))] [] else mj_run yL_edgesFrom w f 4 [.inr (.inl p), .inl x1, .inl (mj_w (x2 + 1)), .inl (mj_w (x3 + 1))] []) := by
  refine ms_iload_n (k := 3) (p' := 5) (by decide +kernel) rfl rfl ?_
  refine ms_aload_n (k := 0) (p' := 6) (by decide +kernel) rfl rfl ?_
  refine ms_geti (idx := 58) (ci := 3) (k := 3) (q := 211) (p' := 9) (by decide +kernel) rfl (pn_k hp hw) ?_
  refine ms_icmp_ge (off := 27) (t := 36) (p' := 12) (by decide +kernel) rfl (fun hc => ?_) (fun hc => ?_)
  · refine ms_iload_n (k := 2) (p' := 37) (by decide +kernel) rfl rfl ?_
    exact ms_iret (by decide +kernel)
  · refine ms_iload_n (k := 2) (p' := 13) (by decide +kernel) rfl rfl ?_
    refine ms_aload_n (k := 0) (p' := 14) (by decide +kernel) rfl rfl ?_
    refine ms_getr (idx := 33) (ci := 3) (k := 13) (q := 247) (p' := 17) (by decide +kernel) rfl (pn_k hp hw) (pn_r13 hp hw) (by omega) ?_
    refine ms_iload_n (k := 3) (p' := 18) (by decide +kernel) rfl rfl ?_
    refine ms_iald (p' := 19) (by decide +kernel) rfl (pn_k13 hp hw) (fun hj1 => ?_)
    refine ms_iload_n (k := 1) (p' := 20) (by decide +kernel) rfl rfl ?_
    refine ms_icmp_ne (off := 7) (t := 27) (p' := 23) (by decide +kernel) rfl (fun hc => ?_) (fun hc => ?_)
    · refine ms_iconst (n := 0) (v := 0) (p' := 28) (by decide +kernel) rfl ?_
      refine ms_iadd (p' := 29) (by decide +kernel) rfl ?_
      refine ms_istore_n (k := 2) (ls' := [.inr (.inl p), .inl x1, .inl (mj_w (x2 + 0)), .inl x3]) (p' := 30) (by decide +kernel) rfl (Nat.le_of_ble_eq_true rfl) rfl ?_
      refine ms_iinc (k := 3) (n := 1) (ls' := [.inr (.inl p), .inl x1, .inl (mj_w (x2 + 0)), .inl (mj_w (x3 + 1))]) (p' := 33) (by decide +kernel) rfl rfl rfl ?_
      refine ms_goto (off := (-29)) (p' := 4) (by decide +kernel) ?_
      rfl
    · refine ms_iconst (n := 1) (v := 1) (p' := 24) (by decide +kernel) rfl ?_
      refine ms_goto (off := 4) (p' := 28) (by decide +kernel) ?_
      refine ms_iadd (p' := 29) (by decide +kernel) rfl ?_
      refine ms_istore_n (k := 2) (ls' := [.inr (.inl p), .inl x1, .inl (mj_w (x2 + 1)), .inl x3]) (p' := 30) (by decide +kernel) rfl (Nat.le_of_ble_eq_true rfl) rfl ?_
      refine ms_iinc (k := 3) (n := 1) (ls' := [.inr (.inl p), .inl x1, .inl (mj_w (x2 + 1)), .inl (mj_w (x3 + 1))]) (p' := 33) (by decide +kernel) rfl rfl rfl ?_
      refine ms_goto (off := (-29)) (p' := 4) (by decide +kernel) ?_
      rfl
theorem c_L_edgesTo {sw : Bool} {w : mj_W} (hw : wk sw w) (f : mj_F) (p : Nat) (x1 : Int) (hp : pn p) : mj_call yL_edgesTo w f [.inr (.inl p), .inl x1] = mj_run yL_edgesTo w f 4 [.inr (.inl p), .inl x1, .inl 0, .inl 0] [] := by
  show mj_run yL_edgesTo w f 0 [.inr (.inl p), .inl x1, .inr (.inr (.inr 0)), .inr (.inr (.inr 0))] [] = _
  refine ms_iconst (n := 0) (v := 0) (p' := 1) (by decide +kernel) rfl ?_
  refine ms_istore_n (k := 2) (ls' := [.inr (.inl p), .inl x1, .inl 0, .inr (.inr (.inr 0))]) (p' := 2) (by decide +kernel) rfl (Nat.le_of_ble_eq_true rfl) rfl ?_
  refine ms_iconst (n := 0) (v := 0) (p' := 3) (by decide +kernel) rfl ?_
  refine ms_istore_n (k := 3) (ls' := [.inr (.inl p), .inl x1, .inl 0, .inl 0]) (p' := 4) (by decide +kernel) rfl (Nat.le_of_ble_eq_true rfl) rfl ?_
  rfl
theorem l_L_edgesTo_4 {sw : Bool} {w : mj_W} (hw : wk sw w) (f : mj_F) (p : Nat) (x1 : Int) (x2 : Int) (x3 : Int) (hp : pn p) : mj_run yL_edgesTo w f 4 [.inr (.inl p), .inl x1, .inl x2, .inl x3] [] = if (f p 3) ≤ x3 then some (w, f, some (.inl x2)) else mj_gd (0 ≤ x3 ∧ x3 < ((16 : Nat) : Int)) (if ¬ (f (p + 9) x3.toNat) = x1 then mj_run yL_edgesTo w f 4 [.inr (.inl p), .inl x1, .inl (mj_w (x2 + 0)), .inl (mj_w (x3 + 1))] [] else mj_run yL_edgesTo w f 4 [.inr (.inl p), .inl x1, .inl (mj_w (x2 + 1)), .inl (mj_w (x3 + 1))] []) := by
  refine ms_iload_n (k := 3) (p' := 5) (by decide +kernel) rfl rfl ?_
  refine ms_aload_n (k := 0) (p' := 6) (by decide +kernel) rfl rfl ?_
  refine ms_geti (idx := 58) (ci := 3) (k := 3) (q := 211) (p' := 9) (by decide +kernel) rfl (pn_k hp hw) ?_
  refine ms_icmp_ge (off := 27) (t := 36) (p' := 12) (by decide +kernel) rfl (fun hc => ?_) (fun hc => ?_)
  · refine ms_iload_n (k := 2) (p' := 37) (by decide +kernel) rfl rfl ?_
    exact ms_iret (by decide +kernel)
  · refine ms_iload_n (k := 2) (p' := 13) (by decide +kernel) rfl rfl ?_
    refine ms_aload_n (k := 0) (p' := 14) (by decide +kernel) rfl rfl ?_
    refine ms_getr (idx := 36) (ci := 3) (k := 14) (q := 253) (p' := 17) (by decide +kernel) rfl (pn_k hp hw) (pn_r14 hp hw) (by omega) ?_
    refine ms_iload_n (k := 3) (p' := 18) (by decide +kernel) rfl rfl ?_
    refine ms_iald (p' := 19) (by decide +kernel) rfl (pn_k14 hp hw) (fun hj1 => ?_)
    refine ms_iload_n (k := 1) (p' := 20) (by decide +kernel) rfl rfl ?_
    refine ms_icmp_ne (off := 7) (t := 27) (p' := 23) (by decide +kernel) rfl (fun hc => ?_) (fun hc => ?_)
    · refine ms_iconst (n := 0) (v := 0) (p' := 28) (by decide +kernel) rfl ?_
      refine ms_iadd (p' := 29) (by decide +kernel) rfl ?_
      refine ms_istore_n (k := 2) (ls' := [.inr (.inl p), .inl x1, .inl (mj_w (x2 + 0)), .inl x3]) (p' := 30) (by decide +kernel) rfl (Nat.le_of_ble_eq_true rfl) rfl ?_
      refine ms_iinc (k := 3) (n := 1) (ls' := [.inr (.inl p), .inl x1, .inl (mj_w (x2 + 0)), .inl (mj_w (x3 + 1))]) (p' := 33) (by decide +kernel) rfl rfl rfl ?_
      refine ms_goto (off := (-29)) (p' := 4) (by decide +kernel) ?_
      rfl
    · refine ms_iconst (n := 1) (v := 1) (p' := 24) (by decide +kernel) rfl ?_
      refine ms_goto (off := 4) (p' := 28) (by decide +kernel) ?_
      refine ms_iadd (p' := 29) (by decide +kernel) rfl ?_
      refine ms_istore_n (k := 2) (ls' := [.inr (.inl p), .inl x1, .inl (mj_w (x2 + 1)), .inl x3]) (p' := 30) (by decide +kernel) rfl (Nat.le_of_ble_eq_true rfl) rfl ?_
      refine ms_iinc (k := 3) (n := 1) (ls' := [.inr (.inl p), .inl x1, .inl (mj_w (x2 + 1)), .inl (mj_w (x3 + 1))]) (p' := 33) (by decide +kernel) rfl rfl rfl ?_
      refine ms_goto (off := (-29)) (p' := 4) (by decide +kernel) ?_
      rfl
theorem c_Z_release {sw : Bool} {w : mj_W} (hw : wk sw w) (f : mj_F) (z : Nat) (x1 : Int) (hz : zn z = true) : mj_call yZ_release w f [.inr (.inl z), .inl x1] = mj_run yZ_release w f 2 [.inr (.inl z), .inl x1, .inl 0] [] := by
  show mj_run yZ_release w f 0 [.inr (.inl z), .inl x1, .inr (.inr (.inr 0))] [] = _
  refine ms_iconst (n := 0) (v := 0) (p' := 1) (by decide +kernel) rfl ?_
  refine ms_istore_n (k := 2) (ls' := [.inr (.inl z), .inl x1, .inl 0]) (p' := 2) (by decide +kernel) rfl (Nat.le_of_ble_eq_true rfl) rfl ?_
  rfl
theorem l_Z_release_2 {sw : Bool} {w : mj_W} (hw : wk sw w) (f : mj_F) (z : Nat) (x1 : Int) (x2 : Int) (hz : zn z = true) : mj_run yZ_release w f 2 [.inr (.inl z), .inl x1, .inl x2] [] = if (f z 1) ≤ x2 then some (w, f, none) else if x2 = x1 then mj_run yZ_release w f 2 [.inr (.inl z), .inl x1, .inl (mj_w (x2 + 1))] [] else mj_bu (mj_call yZ_put w f [.inr (.inl z), .inl x1, .inl x2, .inl 268435456]) (fun f1 => mj_bi (mj_call yZ_cell w f1 [.inr (.inl z), .inl x2, .inl 0]) (fun f2 v3 => mj_bu (mj_call yZ_put w f2 [.inr (.inl z), .inl x2, .inl x1, .inl v3]) (fun f4 => mj_run yZ_release w f4 2 [.inr (.inl z), .inl x1, .inl (mj_w (x2 + 1))] []))) := by
  refine ms_iload_n (k := 2) (p' := 3) (by decide +kernel) rfl rfl ?_
  refine ms_aload_n (k := 0) (p' := 4) (by decide +kernel) rfl rfl ?_
  refine ms_geti (idx := 15) (ci := 7) (k := 1) (q := 360) (p' := 7) (by decide +kernel) rfl (zn_k hz hw) ?_
  refine ms_icmp_ge (off := 34) (t := 41) (p' := 10) (by decide +kernel) rfl (fun hc => ?_) (fun hc => ?_)
  · exact ms_vret (by decide +kernel)
  · refine ms_iload_n (k := 2) (p' := 11) (by decide +kernel) rfl rfl ?_
    refine ms_iload_n (k := 1) (p' := 12) (by decide +kernel) rfl rfl ?_
    refine ms_icmp_eq (off := 23) (t := 35) (p' := 15) (by decide +kernel) rfl (fun hc => ?_) (fun hc => ?_)
    · refine ms_iinc (k := 2) (n := 1) (ls' := [.inr (.inl z), .inl x1, .inl (mj_w (x2 + 1))]) (p' := 38) (by decide +kernel) rfl rfl rfl ?_
      refine ms_goto (off := (-36)) (p' := 2) (by decide +kernel) ?_
      rfl
    · refine ms_aload_n (k := 0) (p' := 16) (by decide +kernel) rfl rfl ?_
      refine ms_iload_n (k := 1) (p' := 17) (by decide +kernel) rfl rfl ?_
      refine ms_iload_n (k := 2) (p' := 18) (by decide +kernel) rfl rfl ?_
      refine ms_ldc (idx := 74) (v := 268435456) (p' := 20) (by decide +kernel) rfl ?_
      refine ms_virt_u (idx := 54) (cy := yZ_put) (n := 3) (a := z) (as := [.inl x1, .inl x2, .inl 268435456]) (rest := []) (p' := 23) (by decide +kernel) rfl rfl rfl rfl (zn_k hz hw) rfl (fun f1 => ?_)
      refine ms_aload_n (k := 0) (p' := 24) (by decide +kernel) rfl rfl ?_
      refine ms_iload_n (k := 2) (p' := 25) (by decide +kernel) rfl rfl ?_
      refine ms_iload_n (k := 1) (p' := 26) (by decide +kernel) rfl rfl ?_
      refine ms_aload_n (k := 0) (p' := 27) (by decide +kernel) rfl rfl ?_
      refine ms_iload_n (k := 2) (p' := 28) (by decide +kernel) rfl rfl ?_
      refine ms_iconst (n := 0) (v := 0) (p' := 29) (by decide +kernel) rfl ?_
      refine ms_virt_i (idx := 29) (cy := yZ_cell) (n := 2) (a := z) (as := [.inl x2, .inl 0]) (rest := [.inl x1, .inl x2, .inr (.inl z)]) (p' := 32) (by decide +kernel) rfl rfl rfl rfl (zn_k hz hw) rfl (fun f2 v3 => ?_)
      refine ms_virt_u (idx := 54) (cy := yZ_put) (n := 3) (a := z) (as := [.inl x2, .inl x1, .inl v3]) (rest := []) (p' := 35) (by decide +kernel) rfl rfl rfl rfl (zn_k hz hw) rfl (fun f4 => ?_)
      refine ms_iinc (k := 2) (n := 1) (ls' := [.inr (.inl z), .inl x1, .inl (mj_w (x2 + 1))]) (p' := 38) (by decide +kernel) rfl rfl rfl ?_
      refine ms_goto (off := (-36)) (p' := 2) (by decide +kernel) ?_
      rfl
theorem c_Z_layAll {sw : Bool} {w : mj_W} (hw : wk sw w) (f : mj_F) (z : Nat) (x1 : Int) (hz : zn z = true) : mj_call yZ_layAll w f [.inr (.inl z), .inl x1] = mj_bu (mj_call yZ_layZero w f [.inr (.inl z), .inl x1]) (fun f1 => mj_run yZ_layAll w f1 7 [.inr (.inl z), .inl x1, .inl 1] []) := by
  show mj_run yZ_layAll w f 0 [.inr (.inl z), .inl x1, .inr (.inr (.inr 0))] [] = _
  refine ms_aload_n (k := 0) (p' := 1) (by decide +kernel) rfl rfl ?_
  refine ms_iload_n (k := 1) (p' := 2) (by decide +kernel) rfl rfl ?_
  refine ms_virt_u (idx := 37) (cy := yZ_layZero) (n := 1) (a := z) (as := [.inl x1]) (rest := []) (p' := 5) (by decide +kernel) rfl rfl rfl rfl (zn_k hz hw) rfl (fun f1 => ?_)
  refine ms_iconst (n := 1) (v := 1) (p' := 6) (by decide +kernel) rfl ?_
  refine ms_istore_n (k := 2) (ls' := [.inr (.inl z), .inl x1, .inl 1]) (p' := 7) (by decide +kernel) rfl (Nat.le_of_ble_eq_true rfl) rfl ?_
  rfl
theorem l_Z_layAll_7 {sw : Bool} {w : mj_W} (hw : wk sw w) (f : mj_F) (z : Nat) (x1 : Int) (x2 : Int) (hz : zn z = true) : mj_run yZ_layAll w f 7 [.inr (.inl z), .inl x1, .inl x2] [] = if (f z 1) ≤ x2 then some (w, f, none) else mj_bu (mj_call yZ_release w f [.inr (.inl z), .inl x2]) (fun f2 => mj_run yZ_layAll w f2 7 [.inr (.inl z), .inl x1, .inl (mj_w (x2 + 1))] []) := by
  refine ms_iload_n (k := 2) (p' := 8) (by decide +kernel) rfl rfl ?_
  refine ms_aload_n (k := 0) (p' := 9) (by decide +kernel) rfl rfl ?_
  refine ms_geti (idx := 15) (ci := 7) (k := 1) (q := 360) (p' := 12) (by decide +kernel) rfl (zn_k hz hw) ?_
  refine ms_icmp_ge (off := 14) (t := 26) (p' := 15) (by decide +kernel) rfl (fun hc => ?_) (fun hc => ?_)
  · exact ms_vret (by decide +kernel)
  · refine ms_aload_n (k := 0) (p' := 16) (by decide +kernel) rfl rfl ?_
    refine ms_iload_n (k := 2) (p' := 17) (by decide +kernel) rfl rfl ?_
    refine ms_virt_u (idx := 41) (cy := yZ_release) (n := 1) (a := z) (as := [.inl x2]) (rest := []) (p' := 20) (by decide +kernel) rfl rfl rfl rfl (zn_k hz hw) rfl (fun f2 => ?_)
    refine ms_iinc (k := 2) (n := 1) (ls' := [.inr (.inl z), .inl x1, .inl (mj_w (x2 + 1))]) (p' := 23) (by decide +kernel) rfl rfl rfl ?_
    refine ms_goto (off := (-16)) (p' := 7) (by decide +kernel) ?_
    rfl
theorem c_Z_layNothing {sw : Bool} {w : mj_W} (hw : wk sw w) (f : mj_F) (z : Nat) (x1 : Int) (hz : zn z = true) : mj_call yZ_layNothing w f [.inr (.inl z), .inl x1] = mj_bu (mj_call yZ_layZero w f [.inr (.inl z), .inl x1]) (fun f1 => some (w, (mj_u f1 z 2 1), none)) := by
  show mj_run yZ_layNothing w f 0 [.inr (.inl z), .inl x1] [] = _
  refine ms_aload_n (k := 0) (p' := 1) (by decide +kernel) rfl rfl ?_
  refine ms_iload_n (k := 1) (p' := 2) (by decide +kernel) rfl rfl ?_
  refine ms_virt_u (idx := 37) (cy := yZ_layZero) (n := 1) (a := z) (as := [.inl x1]) (rest := []) (p' := 5) (by decide +kernel) rfl rfl rfl rfl (zn_k hz hw) rfl (fun f1 => ?_)
  refine ms_aload_n (k := 0) (p' := 6) (by decide +kernel) rfl rfl ?_
  refine ms_iconst (n := 1) (v := 1) (p' := 7) (by decide +kernel) rfl ?_
  refine Eq.trans (ms_putz (idx := 19) (ci := 7) (k := 2) (q := 362) (p' := 10) (by decide +kernel) rfl (zn_k hz hw) (fun _ => ?_)) (mj_gd_pos (by decide) _)
  exact ms_vret (by decide +kernel)
theorem c_Z_goesBeyond {sw : Bool} {w : mj_W} (hw : wk sw w) (f : mj_F) (z : Nat) (x1 : Int) (hz : zn z = true) : mj_call yZ_goesBeyond w f [.inr (.inl z), .inl x1] = if (f z 2) = 0 then mj_run yZ_goesBeyond w f 11 [.inr (.inl z), .inl x1, .inl 0, .inr (.inr (.inr 0)), .inr (.inr (.inr 0))] [] else some (w, f, some (.inl 0)) := by
  show mj_run yZ_goesBeyond w f 0 [.inr (.inl z), .inl x1, .inr (.inr (.inr 0)), .inr (.inr (.inr 0)), .inr (.inr (.inr 0))] [] = _
  refine ms_aload_n (k := 0) (p' := 1) (by decide +kernel) rfl rfl ?_
  refine ms_geti (idx := 19) (ci := 7) (k := 2) (q := 362) (p' := 4) (by decide +kernel) rfl (zn_k hz hw) ?_
  refine ms_if_eq (off := 5) (t := 9) (p' := 7) (by decide +kernel) rfl (fun hc => ?_) (fun hc => ?_)
  · refine ms_iconst (n := 0) (v := 0) (p' := 10) (by decide +kernel) rfl ?_
    refine ms_istore_n (k := 2) (ls' := [.inr (.inl z), .inl x1, .inl 0, .inr (.inr (.inr 0)), .inr (.inr (.inr 0))]) (p' := 11) (by decide +kernel) rfl (Nat.le_of_ble_eq_true rfl) rfl ?_
    rfl
  · refine ms_iconst (n := 0) (v := 0) (p' := 8) (by decide +kernel) rfl ?_
    exact (ms_zret (by decide +kernel)).trans (mj_gd_pos (by decide) _)
theorem l_Z_goesBeyond_11 {sw : Bool} {w : mj_W} (hw : wk sw w) (f : mj_F) (z : Nat) (x1 : Int) (x2 : Int) (u3 : mj_V) (u4 : mj_V) (hz : zn z = true) : mj_run yZ_goesBeyond w f 11 [.inr (.inl z), .inl x1, .inl x2, u3, u4] [] = if (f z 1) ≤ x2 then some (w, f, some (.inl 0)) else mj_run yZ_goesBeyond w f 21 [.inr (.inl z), .inl x1, .inl x2, .inl 0, u4] [] := by
  refine ms_iload_n (k := 2) (p' := 12) (by decide +kernel) rfl rfl ?_
  refine ms_aload_n (k := 0) (p' := 13) (by decide +kernel) rfl rfl ?_
  refine ms_geti (idx := 15) (ci := 7) (k := 1) (q := 360) (p' := 16) (by decide +kernel) rfl (zn_k hz hw) ?_
  refine ms_icmp_ge (off := 54) (t := 70) (p' := 19) (by decide +kernel) rfl (fun hc => ?_) (fun hc => ?_)
  · refine ms_iconst (n := 0) (v := 0) (p' := 71) (by decide +kernel) rfl ?_
    exact (ms_zret (by decide +kernel)).trans (mj_gd_pos (by decide) _)
  · refine ms_iconst (n := 0) (v := 0) (p' := 20) (by decide +kernel) rfl ?_
    refine ms_istore_n (k := 3) (ls' := [.inr (.inl z), .inl x1, .inl x2, .inl 0, u4]) (p' := 21) (by decide +kernel) rfl (Nat.le_of_ble_eq_true rfl) rfl ?_
    rfl
theorem l_Z_goesBeyond_21 {sw : Bool} {w : mj_W} (hw : wk sw w) (f : mj_F) (z : Nat) (x1 : Int) (x2 : Int) (x3 : Int) (u4 : mj_V) (hz : zn z = true) : mj_run yZ_goesBeyond w f 21 [.inr (.inl z), .inl x1, .inl x2, .inl x3, u4] [] = if (f z 1) ≤ x3 then mj_run yZ_goesBeyond w f 11 [.inr (.inl z), .inl x1, .inl (mj_w (x2 + 1)), .inl x3, u4] [] else mj_bi (mj_call yZ_cell w f [.inr (.inl z), .inl x2, .inl x3]) (fun f1 v2 => if 268435456 ≤ v2 then mj_run yZ_goesBeyond w f1 21 [.inr (.inl z), .inl x1, .inl x2, .inl (mj_w (x3 + 1)), .inl v2] [] else mj_bi (mj_call yX_numberOf w f1 [.inl v2]) (fun f3 v4 => if (if 0 ≤ v4 then v4 else mj_w (0 - v4)) ≤ x1 then mj_run yZ_goesBeyond w f3 21 [.inr (.inl z), .inl x1, .inl x2, .inl (mj_w (x3 + 1)), .inl v2] [] else some (w, f3, some (.inl 1)))) := by
  refine ms_iload_n (k := 3) (p' := 22) (by decide +kernel) rfl rfl ?_
  refine ms_aload_n (k := 0) (p' := 23) (by decide +kernel) rfl rfl ?_
  refine ms_geti (idx := 15) (ci := 7) (k := 1) (q := 360) (p' := 26) (by decide +kernel) rfl (zn_k hz hw) ?_
  refine ms_icmp_ge (off := 38) (t := 64) (p' := 29) (by decide +kernel) rfl (fun hc => ?_) (fun hc => ?_)
  · refine ms_iinc (k := 2) (n := 1) (ls' := [.inr (.inl z), .inl x1, .inl (mj_w (x2 + 1)), .inl x3, u4]) (p' := 67) (by decide +kernel) rfl rfl rfl ?_
    refine ms_goto (off := (-56)) (p' := 11) (by decide +kernel) ?_
    rfl
  · refine ms_aload_n (k := 0) (p' := 30) (by decide +kernel) rfl rfl ?_
    refine ms_iload_n (k := 2) (p' := 31) (by decide +kernel) rfl rfl ?_
    refine ms_iload_n (k := 3) (p' := 32) (by decide +kernel) rfl rfl ?_
    refine ms_virt_i (idx := 29) (cy := yZ_cell) (n := 2) (a := z) (as := [.inl x2, .inl x3]) (rest := []) (p' := 35) (by decide +kernel) rfl rfl rfl rfl (zn_k hz hw) rfl (fun f1 v2 => ?_)
    refine ms_istore (k := 4) (ls' := [.inr (.inl z), .inl x1, .inl x2, .inl x3, .inl v2]) (p' := 37) (by decide +kernel) rfl (Nat.le_of_ble_eq_true rfl) rfl ?_
    refine ms_iload (k := 4) (p' := 39) (by decide +kernel) rfl rfl ?_
    refine ms_ldc (idx := 74) (v := 268435456) (p' := 41) (by decide +kernel) rfl ?_
    refine ms_icmp_ge (off := 17) (t := 58) (p' := 44) (by decide +kernel) rfl (fun hc => ?_) (fun hc => ?_)
    · refine ms_iinc (k := 3) (n := 1) (ls' := [.inr (.inl z), .inl x1, .inl x2, .inl (mj_w (x3 + 1)), .inl v2]) (p' := 61) (by decide +kernel) rfl rfl rfl ?_
      refine ms_goto (off := (-40)) (p' := 21) (by decide +kernel) ?_
      rfl
    · refine ms_iload (k := 4) (p' := 46) (by decide +kernel) rfl rfl ?_
      refine ms_stat_i (idx := 33) (cy := yX_numberOf) (n := 1) (as := [.inl v2]) (rest := []) (p' := 49) (by decide +kernel) rfl rfl rfl rfl rfl (fun f3 v4 => ?_)
      refine ms_abs (idx := 156) (x := 0) (q := 849) (p' := 52) (by decide +kernel) rfl rfl ?_
      refine ms_iload_n (k := 1) (p' := 53) (by decide +kernel) rfl rfl ?_
      refine ms_icmp_le (off := 5) (t := 58) (p' := 56) (by decide +kernel) rfl (fun hc => ?_) (fun hc => ?_)
      · refine ms_iinc (k := 3) (n := 1) (ls' := [.inr (.inl z), .inl x1, .inl x2, .inl (mj_w (x3 + 1)), .inl v2]) (p' := 61) (by decide +kernel) rfl rfl rfl ?_
        refine ms_goto (off := (-40)) (p' := 21) (by decide +kernel) ?_
        rfl
      · refine ms_iconst (n := 1) (v := 1) (p' := 57) (by decide +kernel) rfl ?_
        exact (ms_zret (by decide +kernel)).trans (mj_gd_pos (by decide) _)
theorem c_H_goOn {sw : Bool} {w : mj_W} (hw : wk sw w) (f : mj_F)   : mj_call yH_goOn w f [.inr (.inl 178)] = mj_gd (¬ 16 = 0) (some (w, (mj_u (mj_u f 178 4 (mj_rem (mj_w ((f 178 4) + 1)) 16)) 178 5 (if 16 < (mj_w ((mj_u f 178 4 (mj_rem (mj_w ((f 178 4) + 1)) 16) 178 5) + 1)) then 16 else (mj_w ((mj_u f 178 4 (mj_rem (mj_w ((f 178 4) + 1)) 16) 178 5) + 1)))), none)) := by
  show mj_run yH_goOn w f 0 [.inr (.inl 178)] [] = _
  refine ms_aload_n (k := 0) (p' := 1) (by decide +kernel) rfl rfl ?_
  refine ms_aload_n (k := 0) (p' := 2) (by decide +kernel) rfl rfl ?_
  refine ms_geti (idx := 27) (ci := 1) (k := 4) (q := 502) (p' := 5) (by decide +kernel) rfl (k_178 hw) ?_
  refine ms_iconst (n := 1) (v := 1) (p' := 6) (by decide +kernel) rfl ?_
  refine ms_iadd (p' := 7) (by decide +kernel) rfl ?_
  refine ms_bipush (n := 16) (v := 16) (p' := 9) (by decide +kernel) rfl ?_
  refine ms_irem (p' := 10) (by decide +kernel) rfl (fun hd => ?_)
  refine ms_puti (idx := 27) (ci := 1) (k := 4) (q := 502) (p' := 13) (by decide +kernel) rfl (k_178 hw) ?_
  refine ms_aload_n (k := 0) (p' := 14) (by decide +kernel) rfl rfl ?_
  refine ms_aload_n (k := 0) (p' := 15) (by decide +kernel) rfl rfl ?_
  refine ms_geti (idx := 31) (ci := 1) (k := 5) (q := 503) (p' := 18) (by decide +kernel) rfl (k_178 hw) ?_
  refine ms_iconst (n := 1) (v := 1) (p' := 19) (by decide +kernel) rfl ?_
  refine ms_iadd (p' := 20) (by decide +kernel) rfl ?_
  refine ms_bipush (n := 16) (v := 16) (p' := 22) (by decide +kernel) rfl ?_
  refine ms_math2 (idx := 56) (k := 13) (x := 0) (q := 861) (v := (if 16 < (mj_w ((mj_u f 178 4 (mj_rem (mj_w ((f 178 4) + 1)) 16) 178 5) + 1)) then 16 else (mj_w ((mj_u f 178 4 (mj_rem (mj_w ((f 178 4) + 1)) 16) 178 5) + 1)))) (p' := 25) (by decide +kernel) (Or.inr ⟨rfl, rfl⟩) rfl rfl ?_
  refine ms_puti (idx := 31) (ci := 1) (k := 5) (q := 503) (p' := 28) (by decide +kernel) rfl (k_178 hw) ?_
  exact ms_vret (by decide +kernel)
theorem c_H_keepTable {sw : Bool} {w : mj_W} (hw : wk sw w) (f : mj_F) (x1 : Int) (z1 : Nat) (hz1 : zn z1 = true) : mj_call yH_keepTable w f [.inr (.inl 178), .inl x1, .inr (.inl z1)] = mj_gd (0 ≤ (f 178 4) ∧ (f 178 4) < ((16 : Nat) : Int)) (mj_gd (0 ≤ (mj_u f 179 (f 178 4).toNat x1 178 4) ∧ (mj_u f 179 (f 178 4).toNat x1 178 4) < ((16 : Nat) : Int)) (mj_bu (mj_call yZ_become w (mj_u f 179 (f 178 4).toNat x1) [.inr (.inl (183 + 2 * (mj_u f 179 (f 178 4).toNat x1 178 4).toNat)), .inr (.inl z1)]) (fun f3 => mj_bu (mj_call yH_goOn w f3 [.inr (.inl 178)]) (fun f4 => some (w, f4, none))))) := by
  show mj_run yH_keepTable w f 0 [.inr (.inl 178), .inl x1, .inr (.inl z1)] [] = _
  refine ms_aload_n (k := 0) (p' := 1) (by decide +kernel) rfl rfl ?_
  refine ms_getr (idx := 9) (ci := 1) (k := 0) (q := 496) (p' := 4) (by decide +kernel) rfl (k_178 hw) (r_178_0 hw) (by decide) ?_
  refine ms_aload_n (k := 0) (p' := 5) (by decide +kernel) rfl rfl ?_
  refine ms_geti (idx := 27) (ci := 1) (k := 4) (q := 502) (p' := 8) (by decide +kernel) rfl (k_178 hw) ?_
  refine ms_iload_n (k := 1) (p' := 9) (by decide +kernel) rfl rfl ?_
  refine ms_iast (p' := 10) (by decide +kernel) rfl (k_179 hw) (fun hj1 => ?_)
  refine ms_aload_n (k := 0) (p' := 11) (by decide +kernel) rfl rfl ?_
  refine ms_getr (idx := 17) (ci := 1) (k := 1) (q := 498) (p' := 14) (by decide +kernel) rfl (k_178 hw) (r_178_1 hw) (by decide) ?_
  refine ms_aload_n (k := 0) (p' := 15) (by decide +kernel) rfl rfl ?_
  refine ms_geti (idx := 27) (ci := 1) (k := 4) (q := 502) (p' := 18) (by decide +kernel) rfl (k_178 hw) ?_
  refine ms_aald (p' := 19) (by decide +kernel) rfl (k_180 hw) (rz180 hw) (fun hj2 => ?_)
  refine ms_aload_n (k := 2) (p' := 20) (by decide +kernel) rfl rfl ?_
  refine ms_virt_u (idx := 35) (cy := yZ_become) (n := 1) (a := (183 + 2 * (mj_u f 179 (f 178 4).toNat x1 178 4).toNat)) (as := [.inr (.inl z1)]) (rest := []) (p' := 23) (by decide +kernel) rfl rfl rfl rfl (zn_k (zz180 hj2) hw) rfl (fun f3 => ?_)
  refine ms_aload_n (k := 0) (p' := 24) (by decide +kernel) rfl rfl ?_
  refine ms_virt_u (idx := 39) (cy := yH_goOn) (n := 0) (a := 178) (as := []) (rest := []) (p' := 27) (by decide +kernel) rfl rfl rfl rfl (k_178 hw) rfl (fun f4 => ?_)
  exact ms_vret (by decide +kernel)
theorem c_Z_relate {sw : Bool} {w : mj_W} (hw : wk sw w) (f : mj_F) (z : Nat) (x1 : Int) (x2 : Int) (x3 : Int) (x4 : Int) (hz : zn z = true) : mj_call yZ_relate w f [.inr (.inl z), .inl x1, .inl x2, .inl x3, .inl x4] = mj_bi (mj_call yX_upperOf w f [.inl x3, .inl x4]) (fun f1 v2 => mj_bu (mj_call yZ_tighten w f1 [.inr (.inl z), .inl x1, .inl x2, .inl v2]) (fun f3 => mj_bi (mj_call yX_lowerOf w f3 [.inl x3, .inl x4]) (fun f4 v5 => mj_bu (mj_call yZ_tighten w f4 [.inr (.inl z), .inl x2, .inl x1, .inl v5]) (fun f6 => some (w, f6, none))))) := by
  show mj_run yZ_relate w f 0 [.inr (.inl z), .inl x1, .inl x2, .inl x3, .inl x4] [] = _
  refine ms_aload_n (k := 0) (p' := 1) (by decide +kernel) rfl rfl ?_
  refine ms_iload_n (k := 1) (p' := 2) (by decide +kernel) rfl rfl ?_
  refine ms_iload_n (k := 2) (p' := 3) (by decide +kernel) rfl rfl ?_
  refine ms_iload_n (k := 3) (p' := 4) (by decide +kernel) rfl rfl ?_
  refine ms_iload (k := 4) (p' := 6) (by decide +kernel) rfl rfl ?_
  refine ms_stat_i (idx := 62) (cy := yX_upperOf) (n := 2) (as := [.inl x3, .inl x4]) (rest := [.inl x2, .inl x1, .inr (.inl z)]) (p' := 9) (by decide +kernel) rfl rfl rfl rfl rfl (fun f1 v2 => ?_)
  refine ms_virt_u (idx := 65) (cy := yZ_tighten) (n := 3) (a := z) (as := [.inl x1, .inl x2, .inl v2]) (rest := []) (p' := 12) (by decide +kernel) rfl rfl rfl rfl (zn_k hz hw) rfl (fun f3 => ?_)
  refine ms_aload_n (k := 0) (p' := 13) (by decide +kernel) rfl rfl ?_
  refine ms_iload_n (k := 2) (p' := 14) (by decide +kernel) rfl rfl ?_
  refine ms_iload_n (k := 1) (p' := 15) (by decide +kernel) rfl rfl ?_
  refine ms_iload_n (k := 3) (p' := 16) (by decide +kernel) rfl rfl ?_
  refine ms_iload (k := 4) (p' := 18) (by decide +kernel) rfl rfl ?_
  refine ms_stat_i (idx := 68) (cy := yX_lowerOf) (n := 2) (as := [.inl x3, .inl x4]) (rest := [.inl x1, .inl x2, .inr (.inl z)]) (p' := 21) (by decide +kernel) rfl rfl rfl rfl rfl (fun f4 v5 => ?_)
  refine ms_virt_u (idx := 65) (cy := yZ_tighten) (n := 3) (a := z) (as := [.inl x2, .inl x1, .inl v5]) (rest := []) (p' := 24) (by decide +kernel) rfl rfl rfl rfl (zn_k hz hw) rfl (fun f6 => ?_)
  exact ms_vret (by decide +kernel)
theorem c_Z_goDown {sw : Bool} {w : mj_W} (hw : wk sw w) (f : mj_F) (z : Nat) (hz : zn z = true) : mj_call yZ_goDown w f [.inr (.inl z)] = mj_run yZ_goDown w f 2 [.inr (.inl z), .inl 1, .inr (.inr (.inr 0)), .inr (.inr (.inr 0))] [] := by
  show mj_run yZ_goDown w f 0 [.inr (.inl z), .inr (.inr (.inr 0)), .inr (.inr (.inr 0)), .inr (.inr (.inr 0))] [] = _
  refine ms_iconst (n := 1) (v := 1) (p' := 1) (by decide +kernel) rfl ?_
  refine ms_istore_n (k := 1) (ls' := [.inr (.inl z), .inl 1, .inr (.inr (.inr 0)), .inr (.inr (.inr 0))]) (p' := 2) (by decide +kernel) rfl (Nat.le_of_ble_eq_true rfl) rfl ?_
  rfl
theorem l_Z_goDown_2 {sw : Bool} {w : mj_W} (hw : wk sw w) (f : mj_F) (z : Nat) (x1 : Int) (u2 : mj_V) (u3 : mj_V) (hz : zn z = true) : mj_run yZ_goDown w f 2 [.inr (.inl z), .inl x1, u2, u3] [] = if (f z 1) ≤ x1 then some (w, f, none) else mj_run yZ_goDown w f 14 [.inr (.inl z), .inl x1, .inl 1, .inl 1] [] := by
  refine ms_iload_n (k := 1) (p' := 3) (by decide +kernel) rfl rfl ?_
  refine ms_aload_n (k := 0) (p' := 4) (by decide +kernel) rfl rfl ?_
  refine ms_geti (idx := 15) (ci := 7) (k := 1) (q := 360) (p' := 7) (by decide +kernel) rfl (zn_k hz hw) ?_
  refine ms_icmp_ge (off := 45) (t := 52) (p' := 10) (by decide +kernel) rfl (fun hc => ?_) (fun hc => ?_)
  · exact ms_vret (by decide +kernel)
  · refine ms_iconst (n := 1) (v := 1) (p' := 11) (by decide +kernel) rfl ?_
    refine ms_istore_n (k := 2) (ls' := [.inr (.inl z), .inl x1, .inl 1, u3]) (p' := 12) (by decide +kernel) rfl (Nat.le_of_ble_eq_true rfl) rfl ?_
    refine ms_iconst (n := 1) (v := 1) (p' := 13) (by decide +kernel) rfl ?_
    refine ms_istore_n (k := 3) (ls' := [.inr (.inl z), .inl x1, .inl 1, .inl 1]) (p' := 14) (by decide +kernel) rfl (Nat.le_of_ble_eq_true rfl) rfl ?_
    rfl
theorem l_Z_goDown_14 {sw : Bool} {w : mj_W} (hw : wk sw w) (f : mj_F) (z : Nat) (x1 : Int) (x2 : Int) (x3 : Int) (hz : zn z = true) : mj_run yZ_goDown w f 14 [.inr (.inl z), .inl x1, .inl x2, .inl x3] [] = if (f z 1) ≤ x3 then mj_bu (mj_call yZ_put w f [.inr (.inl z), .inl 0, .inl x1, .inl x2]) (fun f1 => mj_run yZ_goDown w f1 2 [.inr (.inl z), .inl (mj_w (x1 + 1)), .inl x2, .inl x3] []) else mj_bi (mj_call yZ_cell w f [.inr (.inl z), .inl x3, .inl x1]) (fun f2 v3 => mj_run yZ_goDown w f2 14 [.inr (.inl z), .inl x1, .inl (if v3 < x2 then v3 else x2), .inl (mj_w (x3 + 1))] []) := by
  refine ms_iload_n (k := 3) (p' := 15) (by decide +kernel) rfl rfl ?_
  refine ms_aload_n (k := 0) (p' := 16) (by decide +kernel) rfl rfl ?_
  refine ms_geti (idx := 15) (ci := 7) (k := 1) (q := 360) (p' := 19) (by decide +kernel) rfl (zn_k hz hw) ?_
  refine ms_icmp_ge (off := 20) (t := 39) (p' := 22) (by decide +kernel) rfl (fun hc => ?_) (fun hc => ?_)
  · refine ms_aload_n (k := 0) (p' := 40) (by decide +kernel) rfl rfl ?_
    refine ms_iconst (n := 0) (v := 0) (p' := 41) (by decide +kernel) rfl ?_
    refine ms_iload_n (k := 1) (p' := 42) (by decide +kernel) rfl rfl ?_
    refine ms_iload_n (k := 2) (p' := 43) (by decide +kernel) rfl rfl ?_
    refine ms_virt_u (idx := 54) (cy := yZ_put) (n := 3) (a := z) (as := [.inl 0, .inl x1, .inl x2]) (rest := []) (p' := 46) (by decide +kernel) rfl rfl rfl rfl (zn_k hz hw) rfl (fun f1 => ?_)
    refine ms_iinc (k := 1) (n := 1) (ls' := [.inr (.inl z), .inl (mj_w (x1 + 1)), .inl x2, .inl x3]) (p' := 49) (by decide +kernel) rfl rfl rfl ?_
    refine ms_goto (off := (-47)) (p' := 2) (by decide +kernel) ?_
    rfl
  · refine ms_iload_n (k := 2) (p' := 23) (by decide +kernel) rfl rfl ?_
    refine ms_aload_n (k := 0) (p' := 24) (by decide +kernel) rfl rfl ?_
    refine ms_iload_n (k := 3) (p' := 25) (by decide +kernel) rfl rfl ?_
    refine ms_iload_n (k := 1) (p' := 26) (by decide +kernel) rfl rfl ?_
    refine ms_virt_i (idx := 29) (cy := yZ_cell) (n := 2) (a := z) (as := [.inl x3, .inl x1]) (rest := [.inl x2]) (p' := 29) (by decide +kernel) rfl rfl rfl rfl (zn_k hz hw) rfl (fun f2 v3 => ?_)
    refine ms_math2 (idx := 75) (k := 13) (x := 0) (q := 725) (v := (if v3 < x2 then v3 else x2)) (p' := 32) (by decide +kernel) (Or.inr ⟨rfl, rfl⟩) rfl rfl ?_
    refine ms_istore_n (k := 2) (ls' := [.inr (.inl z), .inl x1, .inl (if v3 < x2 then v3 else x2), .inl x3]) (p' := 33) (by decide +kernel) rfl (Nat.le_of_ble_eq_true rfl) rfl ?_
    refine ms_iinc (k := 3) (n := 1) (ls' := [.inr (.inl z), .inl x1, .inl (if v3 < x2 then v3 else x2), .inl (mj_w (x3 + 1))]) (p' := 36) (by decide +kernel) rfl rfl rfl ?_
    refine ms_goto (off := (-22)) (p' := 14) (by decide +kernel) ?_
    rfl
theorem c_Z_widenTo {sw : Bool} {w : mj_W} (hw : wk sw w) (f : mj_F) (z : Nat) (z1 : Nat) (hz : zn z = true) (hz1 : zn z1 = true) : mj_call yZ_widenTo w f [.inr (.inl z), .inr (.inl z1)] = if (f z1 2) = 0 then if (f z 2) = 0 then mj_run yZ_widenTo w f 23 [.inr (.inl z), .inr (.inl z1), .inl 0] [] else mj_bu (mj_call yZ_become w f [.inr (.inl z), .inr (.inl z1)]) (fun f1 => some (w, f1, none)) else some (w, f, none) := by
  show mj_run yZ_widenTo w f 0 [.inr (.inl z), .inr (.inl z1), .inr (.inr (.inr 0))] [] = _
  refine ms_aload_n (k := 1) (p' := 1) (by decide +kernel) rfl rfl ?_
  refine ms_geti (idx := 19) (ci := 7) (k := 2) (q := 362) (p' := 4) (by decide +kernel) rfl (zn_k hz1 hw) ?_
  refine ms_if_eq (off := 4) (t := 8) (p' := 7) (by decide +kernel) rfl (fun hc => ?_) (fun hc => ?_)
  · refine ms_aload_n (k := 0) (p' := 9) (by decide +kernel) rfl rfl ?_
    refine ms_geti (idx := 19) (ci := 7) (k := 2) (q := 362) (p' := 12) (by decide +kernel) rfl (zn_k hz hw) ?_
    refine ms_if_eq (off := 9) (t := 21) (p' := 15) (by decide +kernel) rfl (fun hc => ?_) (fun hc => ?_)
    · refine ms_iconst (n := 0) (v := 0) (p' := 22) (by decide +kernel) rfl ?_
      refine ms_istore_n (k := 2) (ls' := [.inr (.inl z), .inr (.inl z1), .inl 0]) (p' := 23) (by decide +kernel) rfl (Nat.le_of_ble_eq_true rfl) rfl ?_
      rfl
    · refine ms_aload_n (k := 0) (p' := 16) (by decide +kernel) rfl rfl ?_
      refine ms_aload_n (k := 1) (p' := 17) (by decide +kernel) rfl rfl ?_
      refine ms_virt_u (idx := 50) (cy := yZ_become) (n := 1) (a := z) (as := [.inr (.inl z1)]) (rest := []) (p' := 20) (by decide +kernel) rfl rfl rfl rfl (zn_k hz hw) rfl (fun f1 => ?_)
      exact ms_vret (by decide +kernel)
  · exact ms_vret (by decide +kernel)
theorem l_Z_widenTo_23 {sw : Bool} {w : mj_W} (hw : wk sw w) (f : mj_F) (z : Nat) (z1 : Nat) (x2 : Int) (hz : zn z = true) (hz1 : zn z1 = true) : mj_run yZ_widenTo w f 23 [.inr (.inl z), .inr (.inl z1), .inl x2] [] = if ((36 : Nat) : Int) ≤ x2 then some (w, f, none) else mj_gd (0 ≤ x2 ∧ x2 < ((36 : Nat) : Int)) (mj_gd (0 ≤ x2 ∧ x2 < ((36 : Nat) : Int)) (mj_gd (0 ≤ x2 ∧ x2 < ((36 : Nat) : Int)) (mj_run yZ_widenTo w (mj_u f (z + 1) x2.toNat (if (f (z + 1) x2.toNat) < (f (z1 + 1) x2.toNat) then (f (z1 + 1) x2.toNat) else (f (z + 1) x2.toNat))) 23 [.inr (.inl z), .inr (.inl z1), .inl (mj_w (x2 + 1))] []))) := by
  refine ms_iload_n (k := 2) (p' := 24) (by decide +kernel) rfl rfl ?_
  refine ms_aload_n (k := 0) (p' := 25) (by decide +kernel) rfl rfl ?_
  refine ms_getr (idx := 9) (ci := 7) (k := 0) (q := 359) (p' := 28) (by decide +kernel) rfl (zn_k hz hw) (zn_r hz hw) (nz1 _) ?_
  refine ms_alen (p' := 29) (by decide +kernel) rfl (zn_c hz hw) (by decide) ?_
  refine ms_icmp_ge (off := 30) (t := 59) (p' := 32) (by decide +kernel) rfl (fun hc => ?_) (fun hc => ?_)
  · exact ms_vret (by decide +kernel)
  · refine ms_aload_n (k := 0) (p' := 33) (by decide +kernel) rfl rfl ?_
    refine ms_getr (idx := 9) (ci := 7) (k := 0) (q := 359) (p' := 36) (by decide +kernel) rfl (zn_k hz hw) (zn_r hz hw) (nz1 _) ?_
    refine ms_iload_n (k := 2) (p' := 37) (by decide +kernel) rfl rfl ?_
    refine ms_aload_n (k := 0) (p' := 38) (by decide +kernel) rfl rfl ?_
    refine ms_getr (idx := 9) (ci := 7) (k := 0) (q := 359) (p' := 41) (by decide +kernel) rfl (zn_k hz hw) (zn_r hz hw) (nz1 _) ?_
    refine ms_iload_n (k := 2) (p' := 42) (by decide +kernel) rfl rfl ?_
    refine ms_iald (p' := 43) (by decide +kernel) rfl (zn_c hz hw) (fun hj2 => ?_)
    refine ms_aload_n (k := 1) (p' := 44) (by decide +kernel) rfl rfl ?_
    refine ms_getr (idx := 9) (ci := 7) (k := 0) (q := 359) (p' := 47) (by decide +kernel) rfl (zn_k hz1 hw) (zn_r hz1 hw) (nz1 _) ?_
    refine ms_iload_n (k := 2) (p' := 48) (by decide +kernel) rfl rfl ?_
    refine ms_iald (p' := 49) (by decide +kernel) rfl (zn_c hz1 hw) (fun hj3 => ?_)
    refine ms_math2 (idx := 129) (k := 12) (x := 0) (q := 907) (v := (if (f (z + 1) x2.toNat) < (f (z1 + 1) x2.toNat) then (f (z1 + 1) x2.toNat) else (f (z + 1) x2.toNat))) (p' := 52) (by decide +kernel) (Or.inl ⟨rfl, rfl⟩) rfl rfl ?_
    refine ms_iast (p' := 53) (by decide +kernel) rfl (zn_c hz hw) (fun hj4 => ?_)
    refine ms_iinc (k := 2) (n := 1) (ls' := [.inr (.inl z), .inr (.inl z1), .inl (mj_w (x2 + 1))]) (p' := 56) (by decide +kernel) rfl rfl rfl ?_
    refine ms_goto (off := (-33)) (p' := 23) (by decide +kernel) ?_
    rfl
theorem c_Z_narrowTo {sw : Bool} {w : mj_W} (hw : wk sw w) (f : mj_F) (z : Nat) (z1 : Nat) (hz : zn z = true) (hz1 : zn z1 = true) : mj_call yZ_narrowTo w f [.inr (.inl z), .inr (.inl z1)] = if ¬ (f z 2) = 0 then some (w, (mj_u f z 2 1), none) else if (f z1 2) = 0 then mj_run yZ_narrowTo w f 22 [.inr (.inl z), .inr (.inl z1), .inl 0] [] else some (w, (mj_u f z 2 1), none) := by
  show mj_run yZ_narrowTo w f 0 [.inr (.inl z), .inr (.inl z1), .inr (.inr (.inr 0))] [] = _
  refine ms_aload_n (k := 0) (p' := 1) (by decide +kernel) rfl rfl ?_
  refine ms_geti (idx := 19) (ci := 7) (k := 2) (q := 362) (p' := 4) (by decide +kernel) rfl (zn_k hz hw) ?_
  refine ms_if_ne (off := 10) (t := 14) (p' := 7) (by decide +kernel) rfl (fun hc => ?_) (fun hc => ?_)
  · refine ms_aload_n (k := 0) (p' := 15) (by decide +kernel) rfl rfl ?_
    refine ms_iconst (n := 1) (v := 1) (p' := 16) (by decide +kernel) rfl ?_
    refine Eq.trans (ms_putz (idx := 19) (ci := 7) (k := 2) (q := 362) (p' := 19) (by decide +kernel) rfl (zn_k hz hw) (fun _ => ?_)) (mj_gd_pos (by decide) _)
    exact ms_vret (by decide +kernel)
  · refine ms_aload_n (k := 1) (p' := 8) (by decide +kernel) rfl rfl ?_
    refine ms_geti (idx := 19) (ci := 7) (k := 2) (q := 362) (p' := 11) (by decide +kernel) rfl (zn_k hz1 hw) ?_
    refine ms_if_eq (off := 9) (t := 20) (p' := 14) (by decide +kernel) rfl (fun hc => ?_) (fun hc => ?_)
    · refine ms_iconst (n := 0) (v := 0) (p' := 21) (by decide +kernel) rfl ?_
      refine ms_istore_n (k := 2) (ls' := [.inr (.inl z), .inr (.inl z1), .inl 0]) (p' := 22) (by decide +kernel) rfl (Nat.le_of_ble_eq_true rfl) rfl ?_
      rfl
    · refine ms_aload_n (k := 0) (p' := 15) (by decide +kernel) rfl rfl ?_
      refine ms_iconst (n := 1) (v := 1) (p' := 16) (by decide +kernel) rfl ?_
      refine Eq.trans (ms_putz (idx := 19) (ci := 7) (k := 2) (q := 362) (p' := 19) (by decide +kernel) rfl (zn_k hz hw) (fun _ => ?_)) (mj_gd_pos (by decide) _)
      exact ms_vret (by decide +kernel)
theorem l_Z_narrowTo_22 {sw : Bool} {w : mj_W} (hw : wk sw w) (f : mj_F) (z : Nat) (z1 : Nat) (x2 : Int) (hz : zn z = true) (hz1 : zn z1 = true) : mj_run yZ_narrowTo w f 22 [.inr (.inl z), .inr (.inl z1), .inl x2] [] = if ((36 : Nat) : Int) ≤ x2 then mj_bu (mj_call yZ_close w f [.inr (.inl z)]) (fun f1 => some (w, f1, none)) else mj_gd (0 ≤ x2 ∧ x2 < ((36 : Nat) : Int)) (mj_gd (0 ≤ x2 ∧ x2 < ((36 : Nat) : Int)) (mj_gd (0 ≤ x2 ∧ x2 < ((36 : Nat) : Int)) (mj_run yZ_narrowTo w (mj_u f (z + 1) x2.toNat (if (f (z1 + 1) x2.toNat) < (f (z + 1) x2.toNat) then (f (z1 + 1) x2.toNat) else (f (z + 1) x2.toNat))) 22 [.inr (.inl z), .inr (.inl z1), .inl (mj_w (x2 + 1))] []))) := by
  refine ms_iload_n (k := 2) (p' := 23) (by decide +kernel) rfl rfl ?_
  refine ms_aload_n (k := 0) (p' := 24) (by decide +kernel) rfl rfl ?_
  refine ms_getr (idx := 9) (ci := 7) (k := 0) (q := 359) (p' := 27) (by decide +kernel) rfl (zn_k hz hw) (zn_r hz hw) (nz1 _) ?_
  refine ms_alen (p' := 28) (by decide +kernel) rfl (zn_c hz hw) (by decide) ?_
  refine ms_icmp_ge (off := 30) (t := 58) (p' := 31) (by decide +kernel) rfl (fun hc => ?_) (fun hc => ?_)
  · refine ms_aload_n (k := 0) (p' := 59) (by decide +kernel) rfl rfl ?_
    refine ms_virt_u (idx := 132) (cy := yZ_close) (n := 0) (a := z) (as := []) (rest := []) (p' := 62) (by decide +kernel) rfl rfl rfl rfl (zn_k hz hw) rfl (fun f1 => ?_)
    exact ms_vret (by decide +kernel)
  · refine ms_aload_n (k := 0) (p' := 32) (by decide +kernel) rfl rfl ?_
    refine ms_getr (idx := 9) (ci := 7) (k := 0) (q := 359) (p' := 35) (by decide +kernel) rfl (zn_k hz hw) (zn_r hz hw) (nz1 _) ?_
    refine ms_iload_n (k := 2) (p' := 36) (by decide +kernel) rfl rfl ?_
    refine ms_aload_n (k := 0) (p' := 37) (by decide +kernel) rfl rfl ?_
    refine ms_getr (idx := 9) (ci := 7) (k := 0) (q := 359) (p' := 40) (by decide +kernel) rfl (zn_k hz hw) (zn_r hz hw) (nz1 _) ?_
    refine ms_iload_n (k := 2) (p' := 41) (by decide +kernel) rfl rfl ?_
    refine ms_iald (p' := 42) (by decide +kernel) rfl (zn_c hz hw) (fun hj2 => ?_)
    refine ms_aload_n (k := 1) (p' := 43) (by decide +kernel) rfl rfl ?_
    refine ms_getr (idx := 9) (ci := 7) (k := 0) (q := 359) (p' := 46) (by decide +kernel) rfl (zn_k hz1 hw) (zn_r hz1 hw) (nz1 _) ?_
    refine ms_iload_n (k := 2) (p' := 47) (by decide +kernel) rfl rfl ?_
    refine ms_iald (p' := 48) (by decide +kernel) rfl (zn_c hz1 hw) (fun hj3 => ?_)
    refine ms_math2 (idx := 75) (k := 13) (x := 0) (q := 725) (v := (if (f (z1 + 1) x2.toNat) < (f (z + 1) x2.toNat) then (f (z1 + 1) x2.toNat) else (f (z + 1) x2.toNat))) (p' := 51) (by decide +kernel) (Or.inr ⟨rfl, rfl⟩) rfl rfl ?_
    refine ms_iast (p' := 52) (by decide +kernel) rfl (zn_c hz hw) (fun hj4 => ?_)
    refine ms_iinc (k := 2) (n := 1) (ls' := [.inr (.inl z), .inr (.inl z1), .inl (mj_w (x2 + 1))]) (p' := 55) (by decide +kernel) rfl rfl rfl ?_
    refine ms_goto (off := (-33)) (p' := 22) (by decide +kernel) ?_
    rfl
theorem c_H_dropLatest {sw : Bool} {w : mj_W} (hw : wk sw w) (f : mj_F)   : mj_call yH_dropLatest w f [.inr (.inl 178)] = mj_gd (¬ 16 = 0) (some (w, (mj_u (mj_u f 178 4 (mj_rem (mj_w ((mj_w ((f 178 4) + 16)) - 1)) 16)) 178 5 (mj_w ((mj_u f 178 4 (mj_rem (mj_w ((mj_w ((f 178 4) + 16)) - 1)) 16) 178 5) - 1))), some (.inl (mj_u (mj_u f 178 4 (mj_rem (mj_w ((mj_w ((f 178 4) + 16)) - 1)) 16)) 178 5 (mj_w ((mj_u f 178 4 (mj_rem (mj_w ((mj_w ((f 178 4) + 16)) - 1)) 16) 178 5) - 1)) 178 4)))) := by
  show mj_run yH_dropLatest w f 0 [.inr (.inl 178)] [] = _
  refine ms_aload_n (k := 0) (p' := 1) (by decide +kernel) rfl rfl ?_
  refine ms_aload_n (k := 0) (p' := 2) (by decide +kernel) rfl rfl ?_
  refine ms_geti (idx := 27) (ci := 1) (k := 4) (q := 502) (p' := 5) (by decide +kernel) rfl (k_178 hw) ?_
  refine ms_bipush (n := 16) (v := 16) (p' := 7) (by decide +kernel) rfl ?_
  refine ms_iadd (p' := 8) (by decide +kernel) rfl ?_
  refine ms_iconst (n := 1) (v := 1) (p' := 9) (by decide +kernel) rfl ?_
  refine ms_isub (p' := 10) (by decide +kernel) rfl ?_
  refine ms_bipush (n := 16) (v := 16) (p' := 12) (by decide +kernel) rfl ?_
  refine ms_irem (p' := 13) (by decide +kernel) rfl (fun hd => ?_)
  refine ms_puti (idx := 27) (ci := 1) (k := 4) (q := 502) (p' := 16) (by decide +kernel) rfl (k_178 hw) ?_
  refine ms_aload_n (k := 0) (p' := 17) (by decide +kernel) rfl rfl ?_
  refine ms_dup_a (p' := 18) (by decide +kernel) rfl ?_
  refine ms_geti (idx := 31) (ci := 1) (k := 5) (q := 503) (p' := 21) (by decide +kernel) rfl (k_178 hw) ?_
  refine ms_iconst (n := 1) (v := 1) (p' := 22) (by decide +kernel) rfl ?_
  refine ms_isub (p' := 23) (by decide +kernel) rfl ?_
  refine ms_puti (idx := 31) (ci := 1) (k := 5) (q := 503) (p' := 26) (by decide +kernel) rfl (k_178 hw) ?_
  refine ms_aload_n (k := 0) (p' := 27) (by decide +kernel) rfl rfl ?_
  refine ms_geti (idx := 27) (ci := 1) (k := 4) (q := 502) (p' := 30) (by decide +kernel) rfl (k_178 hw) ?_
  exact ms_iret (by decide +kernel)
theorem c_H_restorePath {sw : Bool} {w : mj_W} (hw : wk sw w) (f : mj_F) (x1 : Int)  : mj_call yH_restorePath w f [.inr (.inl 178), .inl x1, .inr (.inl 168)] = mj_gd (0 ≤ x1 ∧ x1 < ((16 : Nat) : Int)) (mj_gd (0 ≤ (20 : Int) ∧ 0 ≤ (mj_w (x1 * 20)) ∧ 0 ≤ (0 : Int) ∧ (mj_w (x1 * 20)) + (20 : Int) ≤ ((320 : Nat) : Int) ∧ (0 : Int) + (20 : Int) ≤ ((20 : Nat) : Int)) (some (w, (mj_cpy (mj_u f 168 1 (f 182 x1.toNat)) 181 (mj_w (x1 * 20)).toNat 169 (0 : Int).toNat (20 : Int).toNat), none))) := by
  show mj_run yH_restorePath w f 0 [.inr (.inl 178), .inl x1, .inr (.inl 168)] [] = _
  refine ms_aload_n (k := 2) (p' := 1) (by decide +kernel) rfl rfl ?_
  refine ms_aload_n (k := 0) (p' := 2) (by decide +kernel) rfl rfl ?_
  refine ms_getr (idx := 24) (ci := 1) (k := 3) (q := 501) (p' := 5) (by decide +kernel) rfl (k_178 hw) (r_178_3 hw) (by decide) ?_
  refine ms_iload_n (k := 1) (p' := 6) (by decide +kernel) rfl rfl ?_
  refine ms_iald (p' := 7) (by decide +kernel) rfl (k_182 hw) (fun hj1 => ?_)
  refine ms_puti (idx := 42) (ci := 2) (k := 1) (q := 433) (p' := 10) (by decide +kernel) rfl (k_168 hw) ?_
  refine ms_aload_n (k := 0) (p' := 11) (by decide +kernel) rfl rfl ?_
  refine ms_getr (idx := 21) (ci := 1) (k := 2) (q := 500) (p' := 14) (by decide +kernel) rfl (k_178 hw) (r_178_2 hw) (by decide) ?_
  refine ms_iload_n (k := 1) (p' := 15) (by decide +kernel) rfl rfl ?_
  refine ms_bipush (n := 20) (v := 20) (p' := 17) (by decide +kernel) rfl ?_
  refine ms_imul (p' := 18) (by decide +kernel) rfl ?_
  refine ms_aload_n (k := 2) (p' := 19) (by decide +kernel) rfl rfl ?_
  refine ms_getr (idx := 47) (ci := 2) (k := 0) (q := 429) (p' := 22) (by decide +kernel) rfl (k_168 hw) (r_168_0 hw) (by decide) ?_
  refine ms_iconst (n := 0) (v := 0) (p' := 23) (by decide +kernel) rfl ?_
  refine ms_bipush (n := 20) (v := 20) (p' := 25) (by decide +kernel) rfl ?_
  refine ms_copy (idx := 50) (x := 0) (q := 964) (p' := 28) (by decide +kernel) rfl rfl (k_181 hw) (k_169 hw) (fun hj2 => ?_)
  exact ms_vret (by decide +kernel)
theorem c_X_reachedOf {sw : Bool} {w : mj_W} (hw : wk sw w) (f : mj_F) (x0 : Int)  : mj_call yX_reachedOf w f [.inl x0] = some (w, f, some (.inl (mj_and x0 1))) := by
  show mj_run yX_reachedOf w f 0 [.inl x0] [] = _
  refine ms_iload_n (k := 0) (p' := 1) (by decide +kernel) rfl rfl ?_
  refine ms_iconst (n := 1) (v := 1) (p' := 2) (by decide +kernel) rfl ?_
  refine ms_iand (p' := 3) (by decide +kernel) rfl ?_
  exact ms_iret (by decide +kernel)
theorem c_Z_holdsHalves {sw : Bool} {w : mj_W} (hw : wk sw w) (f : mj_F) (z : Nat) (r1 nr1 : Nat) (hz : zn z = true) (hr1 : w.1 r1 = (100, nr1)) : mj_call yZ_holdsHalves w f [.inr (.inl z), .inr (.inl r1)] = if (f z 2) = 0 then mj_run yZ_holdsHalves w f 11 [.inr (.inl z), .inr (.inl r1), .inl 0, .inr (.inr (.inr 0))] [] else some (w, f, some (.inl 0)) := by
  show mj_run yZ_holdsHalves w f 0 [.inr (.inl z), .inr (.inl r1), .inr (.inr (.inr 0)), .inr (.inr (.inr 0))] [] = _
  refine ms_aload_n (k := 0) (p' := 1) (by decide +kernel) rfl rfl ?_
  refine ms_geti (idx := 19) (ci := 7) (k := 2) (q := 362) (p' := 4) (by decide +kernel) rfl (zn_k hz hw) ?_
  refine ms_if_eq (off := 5) (t := 9) (p' := 7) (by decide +kernel) rfl (fun hc => ?_) (fun hc => ?_)
  · refine ms_iconst (n := 0) (v := 0) (p' := 10) (by decide +kernel) rfl ?_
    refine ms_istore_n (k := 2) (ls' := [.inr (.inl z), .inr (.inl r1), .inl 0, .inr (.inr (.inr 0))]) (p' := 11) (by decide +kernel) rfl (Nat.le_of_ble_eq_true rfl) rfl ?_
    rfl
  · refine ms_iconst (n := 0) (v := 0) (p' := 8) (by decide +kernel) rfl ?_
    exact (ms_zret (by decide +kernel)).trans (mj_gd_pos (by decide) _)
theorem l_Z_holdsHalves_11 {sw : Bool} {w : mj_W} (hw : wk sw w) (f : mj_F) (z : Nat) (r1 nr1 : Nat) (x2 : Int) (u3 : mj_V) (hz : zn z = true) (hr1 : w.1 r1 = (100, nr1)) : mj_run yZ_holdsHalves w f 11 [.inr (.inl z), .inr (.inl r1), .inl x2, u3] [] = if (f z 1) ≤ x2 then some (w, f, some (.inl 1)) else mj_run yZ_holdsHalves w f 21 [.inr (.inl z), .inr (.inl r1), .inl x2, .inl 0] [] := by
  refine ms_iload_n (k := 2) (p' := 12) (by decide +kernel) rfl rfl ?_
  refine ms_aload_n (k := 0) (p' := 13) (by decide +kernel) rfl rfl ?_
  refine ms_geti (idx := 15) (ci := 7) (k := 1) (q := 360) (p' := 16) (by decide +kernel) rfl (zn_k hz hw) ?_
  refine ms_icmp_ge (off := 54) (t := 70) (p' := 19) (by decide +kernel) rfl (fun hc => ?_) (fun hc => ?_)
  · refine ms_iconst (n := 1) (v := 1) (p' := 71) (by decide +kernel) rfl ?_
    exact (ms_zret (by decide +kernel)).trans (mj_gd_pos (by decide) _)
  · refine ms_iconst (n := 0) (v := 0) (p' := 20) (by decide +kernel) rfl ?_
    refine ms_istore_n (k := 3) (ls' := [.inr (.inl z), .inr (.inl r1), .inl x2, .inl 0]) (p' := 21) (by decide +kernel) rfl (Nat.le_of_ble_eq_true rfl) rfl ?_
    rfl
theorem l_Z_holdsHalves_21 {sw : Bool} {w : mj_W} (hw : wk sw w) (f : mj_F) (z : Nat) (r1 nr1 : Nat) (x2 : Int) (x3 : Int) (hz : zn z = true) (hr1 : w.1 r1 = (100, nr1)) : mj_run yZ_holdsHalves w f 21 [.inr (.inl z), .inr (.inl r1), .inl x2, .inl x3] [] = if (f z 1) ≤ x3 then mj_run yZ_holdsHalves w f 11 [.inr (.inl z), .inr (.inl r1), .inl (mj_w (x2 + 1)), .inl x3] [] else mj_bi (mj_call yZ_cell w f [.inr (.inl z), .inl x2, .inl x3]) (fun f1 v2 => if 268435456 ≤ v2 then mj_run yZ_holdsHalves w f1 21 [.inr (.inl z), .inr (.inl r1), .inl x2, .inl (mj_w (x3 + 1))] [] else mj_gd (0 ≤ x2 ∧ x2 < ((nr1 : Nat) : Int)) (mj_gd (0 ≤ x3 ∧ x3 < ((nr1 : Nat) : Int)) (mj_bi (mj_call yZ_cell w f1 [.inr (.inl z), .inl x2, .inl x3]) (fun f5 v6 => if (mj_w ((f1 r1 x2.toNat) - (f1 r1 x3.toNat))) < v6 then mj_run yZ_holdsHalves w f5 21 [.inr (.inl z), .inr (.inl r1), .inl x2, .inl (mj_w (x3 + 1))] [] else some (w, f5, some (.inl 0)))))) := by
  refine ms_iload_n (k := 3) (p' := 22) (by decide +kernel) rfl rfl ?_
  refine ms_aload_n (k := 0) (p' := 23) (by decide +kernel) rfl rfl ?_
  refine ms_geti (idx := 15) (ci := 7) (k := 1) (q := 360) (p' := 26) (by decide +kernel) rfl (zn_k hz hw) ?_
  refine ms_icmp_ge (off := 38) (t := 64) (p' := 29) (by decide +kernel) rfl (fun hc => ?_) (fun hc => ?_)
  · refine ms_iinc (k := 2) (n := 1) (ls' := [.inr (.inl z), .inr (.inl r1), .inl (mj_w (x2 + 1)), .inl x3]) (p' := 67) (by decide +kernel) rfl rfl rfl ?_
    refine ms_goto (off := (-56)) (p' := 11) (by decide +kernel) ?_
    rfl
  · refine ms_aload_n (k := 0) (p' := 30) (by decide +kernel) rfl rfl ?_
    refine ms_iload_n (k := 2) (p' := 31) (by decide +kernel) rfl rfl ?_
    refine ms_iload_n (k := 3) (p' := 32) (by decide +kernel) rfl rfl ?_
    refine ms_virt_i (idx := 29) (cy := yZ_cell) (n := 2) (a := z) (as := [.inl x2, .inl x3]) (rest := []) (p' := 35) (by decide +kernel) rfl rfl rfl rfl (zn_k hz hw) rfl (fun f1 v2 => ?_)
    refine ms_ldc (idx := 74) (v := 268435456) (p' := 37) (by decide +kernel) rfl ?_
    refine ms_icmp_ge (off := 21) (t := 58) (p' := 40) (by decide +kernel) rfl (fun hc => ?_) (fun hc => ?_)
    · refine ms_iinc (k := 3) (n := 1) (ls' := [.inr (.inl z), .inr (.inl r1), .inl x2, .inl (mj_w (x3 + 1))]) (p' := 61) (by decide +kernel) rfl rfl rfl ?_
      refine ms_goto (off := (-40)) (p' := 21) (by decide +kernel) ?_
      rfl
    · refine ms_aload_n (k := 1) (p' := 41) (by decide +kernel) rfl rfl ?_
      refine ms_iload_n (k := 2) (p' := 42) (by decide +kernel) rfl rfl ?_
      refine ms_iald (p' := 43) (by decide +kernel) rfl hr1 (fun hj3 => ?_)
      refine ms_aload_n (k := 1) (p' := 44) (by decide +kernel) rfl rfl ?_
      refine ms_iload_n (k := 3) (p' := 45) (by decide +kernel) rfl rfl ?_
      refine ms_iald (p' := 46) (by decide +kernel) rfl hr1 (fun hj4 => ?_)
      refine ms_isub (p' := 47) (by decide +kernel) rfl ?_
      refine ms_aload_n (k := 0) (p' := 48) (by decide +kernel) rfl rfl ?_
      refine ms_iload_n (k := 2) (p' := 49) (by decide +kernel) rfl rfl ?_
      refine ms_iload_n (k := 3) (p' := 50) (by decide +kernel) rfl rfl ?_
      refine ms_virt_i (idx := 29) (cy := yZ_cell) (n := 2) (a := z) (as := [.inl x2, .inl x3]) (rest := [.inl (mj_w ((f1 r1 x2.toNat) - (f1 r1 x3.toNat)))]) (p' := 53) (by decide +kernel) rfl rfl rfl rfl (zn_k hz hw) rfl (fun f5 v6 => ?_)
      refine ms_icmp_lt (off := 5) (t := 58) (p' := 56) (by decide +kernel) rfl (fun hc => ?_) (fun hc => ?_)
      · refine ms_iinc (k := 3) (n := 1) (ls' := [.inr (.inl z), .inr (.inl r1), .inl x2, .inl (mj_w (x3 + 1))]) (p' := 61) (by decide +kernel) rfl rfl rfl ?_
        refine ms_goto (off := (-40)) (p' := 21) (by decide +kernel) ?_
        rfl
      · refine ms_iconst (n := 0) (v := 0) (p' := 57) (by decide +kernel) rfl ?_
        exact (ms_zret (by decide +kernel)).trans (mj_gd_pos (by decide) _)
theorem c_Z_followsFromOthers {sw : Bool} {w : mj_W} (hw : wk sw w) (f : mj_F) (z : Nat) (x1 : Int) (x2 : Int) (hz : zn z = true) : mj_call yZ_followsFromOthers w f [.inr (.inl z), .inl x1, .inl x2] = mj_run yZ_followsFromOthers w f 2 [.inr (.inl z), .inl x1, .inl x2, .inl 0] [] := by
  show mj_run yZ_followsFromOthers w f 0 [.inr (.inl z), .inl x1, .inl x2, .inr (.inr (.inr 0))] [] = _
  refine ms_iconst (n := 0) (v := 0) (p' := 1) (by decide +kernel) rfl ?_
  refine ms_istore_n (k := 3) (ls' := [.inr (.inl z), .inl x1, .inl x2, .inl 0]) (p' := 2) (by decide +kernel) rfl (Nat.le_of_ble_eq_true rfl) rfl ?_
  rfl
theorem l_Z_followsFromOthers_2 {sw : Bool} {w : mj_W} (hw : wk sw w) (f : mj_F) (z : Nat) (x1 : Int) (x2 : Int) (x3 : Int) (hz : zn z = true) : mj_run yZ_followsFromOthers w f 2 [.inr (.inl z), .inl x1, .inl x2, .inl x3] [] = if (f z 1) ≤ x3 then some (w, f, some (.inl 0)) else if x3 = x1 then mj_run yZ_followsFromOthers w f 2 [.inr (.inl z), .inl x1, .inl x2, .inl (mj_w (x3 + 1))] [] else if x3 = x2 then mj_run yZ_followsFromOthers w f 2 [.inr (.inl z), .inl x1, .inl x2, .inl (mj_w (x3 + 1))] [] else mj_bi (mj_call yZ_cell w f [.inr (.inl z), .inl x1, .inl x3]) (fun f1 v2 => mj_bi (mj_call yZ_cell w f1 [.inr (.inl z), .inl x3, .inl x2]) (fun f3 v4 => mj_bi (mj_call yX_sumOf w f3 [.inl v2, .inl v4]) (fun f5 v6 => mj_bi (mj_call yZ_cell w f5 [.inr (.inl z), .inl x1, .inl x2]) (fun f7 v8 => if v8 < v6 then mj_run yZ_followsFromOthers w f7 2 [.inr (.inl z), .inl x1, .inl x2, .inl (mj_w (x3 + 1))] [] else some (w, f7, some (.inl 1)))))) := by
  refine ms_iload_n (k := 3) (p' := 3) (by decide +kernel) rfl rfl ?_
  refine ms_aload_n (k := 0) (p' := 4) (by decide +kernel) rfl rfl ?_
  refine ms_geti (idx := 15) (ci := 7) (k := 1) (q := 360) (p' := 7) (by decide +kernel) rfl (zn_k hz hw) ?_
  refine ms_icmp_ge (off := 45) (t := 52) (p' := 10) (by decide +kernel) rfl (fun hc => ?_) (fun hc => ?_)
  · refine ms_iconst (n := 0) (v := 0) (p' := 53) (by decide +kernel) rfl ?_
    exact (ms_zret (by decide +kernel)).trans (mj_gd_pos (by decide) _)
  · refine ms_iload_n (k := 3) (p' := 11) (by decide +kernel) rfl rfl ?_
    refine ms_iload_n (k := 1) (p' := 12) (by decide +kernel) rfl rfl ?_
    refine ms_icmp_eq (off := 34) (t := 46) (p' := 15) (by decide +kernel) rfl (fun hc => ?_) (fun hc => ?_)
    · refine ms_iinc (k := 3) (n := 1) (ls' := [.inr (.inl z), .inl x1, .inl x2, .inl (mj_w (x3 + 1))]) (p' := 49) (by decide +kernel) rfl rfl rfl ?_
      refine ms_goto (off := (-47)) (p' := 2) (by decide +kernel) ?_
      rfl
    · refine ms_iload_n (k := 3) (p' := 16) (by decide +kernel) rfl rfl ?_
      refine ms_iload_n (k := 2) (p' := 17) (by decide +kernel) rfl rfl ?_
      refine ms_icmp_eq (off := 29) (t := 46) (p' := 20) (by decide +kernel) rfl (fun hc => ?_) (fun hc => ?_)
      · refine ms_iinc (k := 3) (n := 1) (ls' := [.inr (.inl z), .inl x1, .inl x2, .inl (mj_w (x3 + 1))]) (p' := 49) (by decide +kernel) rfl rfl rfl ?_
        refine ms_goto (off := (-47)) (p' := 2) (by decide +kernel) ?_
        rfl
      · refine ms_aload_n (k := 0) (p' := 21) (by decide +kernel) rfl rfl ?_
        refine ms_iload_n (k := 1) (p' := 22) (by decide +kernel) rfl rfl ?_
        refine ms_iload_n (k := 3) (p' := 23) (by decide +kernel) rfl rfl ?_
        refine ms_virt_i (idx := 29) (cy := yZ_cell) (n := 2) (a := z) (as := [.inl x1, .inl x3]) (rest := []) (p' := 26) (by decide +kernel) rfl rfl rfl rfl (zn_k hz hw) rfl (fun f1 v2 => ?_)
        refine ms_aload_n (k := 0) (p' := 27) (by decide +kernel) rfl rfl ?_
        refine ms_iload_n (k := 3) (p' := 28) (by decide +kernel) rfl rfl ?_
        refine ms_iload_n (k := 2) (p' := 29) (by decide +kernel) rfl rfl ?_
        refine ms_virt_i (idx := 29) (cy := yZ_cell) (n := 2) (a := z) (as := [.inl x3, .inl x2]) (rest := [.inl v2]) (p' := 32) (by decide +kernel) rfl rfl rfl rfl (zn_k hz hw) rfl (fun f3 v4 => ?_)
        refine ms_stat_i (idx := 71) (cy := yX_sumOf) (n := 2) (as := [.inl v2, .inl v4]) (rest := []) (p' := 35) (by decide +kernel) rfl rfl rfl rfl rfl (fun f5 v6 => ?_)
        refine ms_aload_n (k := 0) (p' := 36) (by decide +kernel) rfl rfl ?_
        refine ms_iload_n (k := 1) (p' := 37) (by decide +kernel) rfl rfl ?_
        refine ms_iload_n (k := 2) (p' := 38) (by decide +kernel) rfl rfl ?_
        refine ms_virt_i (idx := 29) (cy := yZ_cell) (n := 2) (a := z) (as := [.inl x1, .inl x2]) (rest := [.inl v6]) (p' := 41) (by decide +kernel) rfl rfl rfl rfl (zn_k hz hw) rfl (fun f7 v8 => ?_)
        refine ms_icmp_gt (off := 5) (t := 46) (p' := 44) (by decide +kernel) rfl (fun hc => ?_) (fun hc => ?_)
        · refine ms_iinc (k := 3) (n := 1) (ls' := [.inr (.inl z), .inl x1, .inl x2, .inl (mj_w (x3 + 1))]) (p' := 49) (by decide +kernel) rfl rfl rfl ?_
          refine ms_goto (off := (-47)) (p' := 2) (by decide +kernel) ?_
          rfl
        · refine ms_iconst (n := 1) (v := 1) (p' := 45) (by decide +kernel) rfl ?_
          exact (ms_zret (by decide +kernel)).trans (mj_gd_pos (by decide) _)
theorem c_Z_countsAsPair {sw : Bool} {w : mj_W} (hw : wk sw w) (f : mj_F) (z : Nat) (x1 : Int) (x2 : Int) (x3 : Int) (hz : zn z = true) : mj_call yZ_countsAsPair w f [.inr (.inl z), .inl x1, .inl x2, .inl x3] = mj_bi (mj_call yZ_cell w f [.inr (.inl z), .inl x1, .inl x2]) (fun f1 v2 => if v2 < 268435456 then if ¬ x3 = 0 then if ¬ x3 = 1 then mj_bi (mj_call yZ_followsFromOthers w f1 [.inr (.inl z), .inl x1, .inl x2]) (fun f3 v4 => if ¬ v4 = 0 then some (w, f3, some (.inl 0)) else some (w, f3, some (.inl 1))) else mj_bi (mj_call yX_reachedOf w f1 [.inl v2]) (fun f5 v6 => if ¬ v6 = 1 then some (w, f5, some (.inl 0)) else some (w, f5, some (.inl 1))) else some (w, f1, some (.inl 1)) else some (w, f1, some (.inl 0))) := by
  show mj_run yZ_countsAsPair w f 0 [.inr (.inl z), .inl x1, .inl x2, .inl x3, .inr (.inr (.inr 0))] [] = _
  refine ms_aload_n (k := 0) (p' := 1) (by decide +kernel) rfl rfl ?_
  refine ms_iload_n (k := 1) (p' := 2) (by decide +kernel) rfl rfl ?_
  refine ms_iload_n (k := 2) (p' := 3) (by decide +kernel) rfl rfl ?_
  refine ms_virt_i (idx := 29) (cy := yZ_cell) (n := 2) (a := z) (as := [.inl x1, .inl x2]) (rest := []) (p' := 6) (by decide +kernel) rfl rfl rfl rfl (zn_k hz hw) rfl (fun f1 v2 => ?_)
  refine ms_istore (k := 4) (ls' := [.inr (.inl z), .inl x1, .inl x2, .inl x3, .inl v2]) (p' := 8) (by decide +kernel) rfl (Nat.le_of_ble_eq_true rfl) rfl ?_
  refine ms_iload (k := 4) (p' := 10) (by decide +kernel) rfl rfl ?_
  refine ms_ldc (idx := 74) (v := 268435456) (p' := 12) (by decide +kernel) rfl ?_
  refine ms_icmp_lt (off := 5) (t := 17) (p' := 15) (by decide +kernel) rfl (fun hc => ?_) (fun hc => ?_)
  · refine ms_iload_n (k := 3) (p' := 18) (by decide +kernel) rfl rfl ?_
    refine ms_if_ne (off := 5) (t := 23) (p' := 21) (by decide +kernel) rfl (fun hc => ?_) (fun hc => ?_)
    · refine ms_iload_n (k := 3) (p' := 24) (by decide +kernel) rfl rfl ?_
      refine ms_iconst (n := 1) (v := 1) (p' := 25) (by decide +kernel) rfl ?_
      refine ms_icmp_ne (off := 20) (t := 45) (p' := 28) (by decide +kernel) rfl (fun hc => ?_) (fun hc => ?_)
      · refine ms_aload_n (k := 0) (p' := 46) (by decide +kernel) rfl rfl ?_
        refine ms_iload_n (k := 1) (p' := 47) (by decide +kernel) rfl rfl ?_
        refine ms_iload_n (k := 2) (p' := 48) (by decide +kernel) rfl rfl ?_
        refine ms_virt_i (idx := 162) (cy := yZ_followsFromOthers) (n := 2) (a := z) (as := [.inl x1, .inl x2]) (rest := []) (p' := 51) (by decide +kernel) rfl rfl rfl rfl (zn_k hz hw) rfl (fun f3 v4 => ?_)
        refine ms_if_ne (off := 7) (t := 58) (p' := 54) (by decide +kernel) rfl (fun hc => ?_) (fun hc => ?_)
        · refine ms_iconst (n := 0) (v := 0) (p' := 59) (by decide +kernel) rfl ?_
          exact (ms_zret (by decide +kernel)).trans (mj_gd_pos (by decide) _)
        · refine ms_iconst (n := 1) (v := 1) (p' := 55) (by decide +kernel) rfl ?_
          refine ms_goto (off := 4) (p' := 59) (by decide +kernel) ?_
          exact (ms_zret (by decide +kernel)).trans (mj_gd_pos (by decide) _)
      · refine ms_iload (k := 4) (p' := 30) (by decide +kernel) rfl rfl ?_
        refine ms_stat_i (idx := 159) (cy := yX_reachedOf) (n := 1) (as := [.inl v2]) (rest := []) (p' := 33) (by decide +kernel) rfl rfl rfl rfl rfl (fun f5 v6 => ?_)
        refine ms_iconst (n := 1) (v := 1) (p' := 34) (by decide +kernel) rfl ?_
        refine ms_icmp_ne (off := 7) (t := 41) (p' := 37) (by decide +kernel) rfl (fun hc => ?_) (fun hc => ?_)
        · refine ms_iconst (n := 0) (v := 0) (p' := 42) (by decide +kernel) rfl ?_
          refine ms_goto (off := 17) (p' := 59) (by decide +kernel) ?_
          exact (ms_zret (by decide +kernel)).trans (mj_gd_pos (by decide) _)
        · refine ms_iconst (n := 1) (v := 1) (p' := 38) (by decide +kernel) rfl ?_
          refine ms_goto (off := 21) (p' := 59) (by decide +kernel) ?_
          exact (ms_zret (by decide +kernel)).trans (mj_gd_pos (by decide) _)
    · refine ms_iconst (n := 1) (v := 1) (p' := 22) (by decide +kernel) rfl ?_
      exact (ms_zret (by decide +kernel)).trans (mj_gd_pos (by decide) _)
  · refine ms_iconst (n := 0) (v := 0) (p' := 16) (by decide +kernel) rfl ?_
    exact (ms_zret (by decide +kernel)).trans (mj_gd_pos (by decide) _)
theorem c_X_wholeBound {sw : Bool} {w : mj_W} (hw : wk sw w) (f : mj_F) (x0 : Int)  : mj_call yX_wholeBound w f [.inl x0] = if 268435456 ≤ x0 then some (w, f, some (.inl x0)) else mj_bi (mj_call yX_reachedOf w f [.inl x0]) (fun f1 v2 => if ¬ v2 = 1 then some (w, f1, some (.inl (mj_w (x0 - 1)))) else some (w, f1, some (.inl x0))) := by
  show mj_run yX_wholeBound w f 0 [.inl x0] [] = _
  refine ms_iload_n (k := 0) (p' := 1) (by decide +kernel) rfl rfl ?_
  refine ms_ldc_w (idx := 437) (v := 268435456) (p' := 4) (by decide +kernel) rfl ?_
  refine ms_icmp_ge (off := 11) (t := 15) (p' := 7) (by decide +kernel) rfl (fun hc => ?_) (fun hc => ?_)
  · refine ms_iload_n (k := 0) (p' := 16) (by decide +kernel) rfl rfl ?_
    refine ms_goto (off := 6) (p' := 22) (by decide +kernel) ?_
    exact ms_iret (by decide +kernel)
  · refine ms_iload_n (k := 0) (p' := 8) (by decide +kernel) rfl rfl ?_
    refine ms_stat_i (idx := 324) (cy := yX_reachedOf) (n := 1) (as := [.inl x0]) (rest := []) (p' := 11) (by decide +kernel) rfl rfl rfl rfl rfl (fun f1 v2 => ?_)
    refine ms_iconst (n := 1) (v := 1) (p' := 12) (by decide +kernel) rfl ?_
    refine ms_icmp_ne (off := 7) (t := 19) (p' := 15) (by decide +kernel) rfl (fun hc => ?_) (fun hc => ?_)
    · refine ms_iload_n (k := 0) (p' := 20) (by decide +kernel) rfl rfl ?_
      refine ms_iconst (n := 1) (v := 1) (p' := 21) (by decide +kernel) rfl ?_
      refine ms_isub (p' := 22) (by decide +kernel) rfl ?_
      exact ms_iret (by decide +kernel)
    · refine ms_iload_n (k := 0) (p' := 16) (by decide +kernel) rfl rfl ?_
      refine ms_goto (off := 6) (p' := 22) (by decide +kernel) ?_
      exact ms_iret (by decide +kernel)
theorem c_Z_keepWhole {sw : Bool} {w : mj_W} (hw : wk sw w) (f : mj_F) (z : Nat) (hz : zn z = true) : mj_call yZ_keepWhole w f [.inr (.inl z)] = mj_run yZ_keepWhole w f 2 [.inr (.inl z), .inl 0] [] := by
  show mj_run yZ_keepWhole w f 0 [.inr (.inl z), .inr (.inr (.inr 0))] [] = _
  refine ms_iconst (n := 0) (v := 0) (p' := 1) (by decide +kernel) rfl ?_
  refine ms_istore_n (k := 1) (ls' := [.inr (.inl z), .inl 0]) (p' := 2) (by decide +kernel) rfl (Nat.le_of_ble_eq_true rfl) rfl ?_
  rfl
theorem l_Z_keepWhole_2 {sw : Bool} {w : mj_W} (hw : wk sw w) (f : mj_F) (z : Nat) (x1 : Int) (hz : zn z = true) : mj_run yZ_keepWhole w f 2 [.inr (.inl z), .inl x1] [] = if ((36 : Nat) : Int) ≤ x1 then mj_bu (mj_call yZ_close w f [.inr (.inl z)]) (fun f1 => some (w, f1, none)) else mj_gd (0 ≤ x1 ∧ x1 < ((36 : Nat) : Int)) (mj_bi (mj_call yX_wholeBound w f [.inl (f (z + 1) x1.toNat)]) (fun f3 v4 => mj_gd (0 ≤ x1 ∧ x1 < ((36 : Nat) : Int)) (mj_run yZ_keepWhole w (mj_u f3 (z + 1) x1.toNat v4) 2 [.inr (.inl z), .inl (mj_w (x1 + 1))] []))) := by
  refine ms_iload_n (k := 1) (p' := 3) (by decide +kernel) rfl rfl ?_
  refine ms_aload_n (k := 0) (p' := 4) (by decide +kernel) rfl rfl ?_
  refine ms_getr (idx := 9) (ci := 7) (k := 0) (q := 359) (p' := 7) (by decide +kernel) rfl (zn_k hz hw) (zn_r hz hw) (nz1 _) ?_
  refine ms_alen (p' := 8) (by decide +kernel) rfl (zn_c hz hw) (by decide) ?_
  refine ms_icmp_ge (off := 24) (t := 32) (p' := 11) (by decide +kernel) rfl (fun hc => ?_) (fun hc => ?_)
  · refine ms_aload_n (k := 0) (p' := 33) (by decide +kernel) rfl rfl ?_
    refine ms_virt_u (idx := 132) (cy := yZ_close) (n := 0) (a := z) (as := []) (rest := []) (p' := 36) (by decide +kernel) rfl rfl rfl rfl (zn_k hz hw) rfl (fun f1 => ?_)
    exact ms_vret (by decide +kernel)
  · refine ms_aload_n (k := 0) (p' := 12) (by decide +kernel) rfl rfl ?_
    refine ms_getr (idx := 9) (ci := 7) (k := 0) (q := 359) (p' := 15) (by decide +kernel) rfl (zn_k hz hw) (zn_r hz hw) (nz1 _) ?_
    refine ms_iload_n (k := 1) (p' := 16) (by decide +kernel) rfl rfl ?_
    refine ms_aload_n (k := 0) (p' := 17) (by decide +kernel) rfl rfl ?_
    refine ms_getr (idx := 9) (ci := 7) (k := 0) (q := 359) (p' := 20) (by decide +kernel) rfl (zn_k hz hw) (zn_r hz hw) (nz1 _) ?_
    refine ms_iload_n (k := 1) (p' := 21) (by decide +kernel) rfl rfl ?_
    refine ms_iald (p' := 22) (by decide +kernel) rfl (zn_c hz hw) (fun hj2 => ?_)
    refine ms_stat_i (idx := 149) (cy := yX_wholeBound) (n := 1) (as := [.inl (f (z + 1) x1.toNat)]) (rest := [.inl x1, .inr (.inl (z + 1))]) (p' := 25) (by decide +kernel) rfl rfl rfl rfl rfl (fun f3 v4 => ?_)
    refine ms_iast (p' := 26) (by decide +kernel) rfl (zn_c hz hw) (fun hj5 => ?_)
    refine ms_iinc (k := 1) (n := 1) (ls' := [.inr (.inl z), .inl (mj_w (x1 + 1))]) (p' := 29) (by decide +kernel) rfl rfl rfl ?_
    refine ms_goto (off := (-27)) (p' := 2) (by decide +kernel) ?_
    rfl
theorem c_Z_leastOf {sw : Bool} {w : mj_W} (hw : wk sw w) (f : mj_F) (z : Nat) (x1 : Int) (hz : zn z = true) : mj_call yZ_leastOf w f [.inr (.inl z), .inl x1] = mj_bi (mj_call yZ_cell w f [.inr (.inl z), .inl 0, .inl x1]) (fun f1 v2 => mj_bi (mj_call yX_numberOf w f1 [.inl v2]) (fun f3 v4 => some (w, f3, some (.inl (mj_w (-v4)))))) := by
  show mj_run yZ_leastOf w f 0 [.inr (.inl z), .inl x1] [] = _
  refine ms_aload_n (k := 0) (p' := 1) (by decide +kernel) rfl rfl ?_
  refine ms_iconst (n := 0) (v := 0) (p' := 2) (by decide +kernel) rfl ?_
  refine ms_iload_n (k := 1) (p' := 3) (by decide +kernel) rfl rfl ?_
  refine ms_virt_i (idx := 29) (cy := yZ_cell) (n := 2) (a := z) (as := [.inl 0, .inl x1]) (rest := []) (p' := 6) (by decide +kernel) rfl rfl rfl rfl (zn_k hz hw) rfl (fun f1 v2 => ?_)
  refine ms_stat_i (idx := 33) (cy := yX_numberOf) (n := 1) (as := [.inl v2]) (rest := []) (p' := 9) (by decide +kernel) rfl rfl rfl rfl rfl (fun f3 v4 => ?_)
  refine ms_ineg (p' := 10) (by decide +kernel) rfl ?_
  exact ms_iret (by decide +kernel)
theorem c_P_endIn {sw : Bool} {w : mj_W} (hw : wk sw w) (f : mj_F) (p : Nat) (hp : pn p) : mj_call yP_endIn w f [.inr (.inl 168), .inr (.inl p)] = if ¬ (f 168 1) = 0 then mj_gd (0 ≤ (mj_w ((f 168 1) - 1)) ∧ (mj_w ((f 168 1) - 1)) < ((20 : Nat) : Int)) (mj_gd (0 ≤ (f 169 (mj_w ((f 168 1) - 1)).toNat) ∧ (f 169 (mj_w ((f 168 1) - 1)).toNat) < ((16 : Nat) : Int)) (some (w, f, some (.inl (f (p + 9) (f 169 (mj_w ((f 168 1) - 1)).toNat).toNat))))) else some (w, f, some (.inl (f p 4))) := by
  show mj_run yP_endIn w f 0 [.inr (.inl 168), .inr (.inl p)] [] = _
  refine ms_aload_n (k := 0) (p' := 1) (by decide +kernel) rfl rfl ?_
  refine ms_geti (idx := 15) (ci := 2) (k := 1) (q := 431) (p' := 4) (by decide +kernel) rfl (k_168 hw) ?_
  refine ms_if_ne (off := 10) (t := 14) (p' := 7) (by decide +kernel) rfl (fun hc => ?_) (fun hc => ?_)
  · refine ms_aload_n (k := 1) (p' := 15) (by decide +kernel) rfl rfl ?_
    refine ms_getr (idx := 24) (ci := 3) (k := 14) (q := 254) (p' := 18) (by decide +kernel) rfl (pn_k hp hw) (pn_r14 hp hw) (by omega) ?_
    refine ms_aload_n (k := 0) (p' := 19) (by decide +kernel) rfl rfl ?_
    refine ms_getr (idx := 9) (ci := 2) (k := 0) (q := 427) (p' := 22) (by decide +kernel) rfl (k_168 hw) (r_168_0 hw) (by decide) ?_
    refine ms_aload_n (k := 0) (p' := 23) (by decide +kernel) rfl rfl ?_
    refine ms_geti (idx := 15) (ci := 2) (k := 1) (q := 431) (p' := 26) (by decide +kernel) rfl (k_168 hw) ?_
    refine ms_iconst (n := 1) (v := 1) (p' := 27) (by decide +kernel) rfl ?_
    refine ms_isub (p' := 28) (by decide +kernel) rfl ?_
    refine ms_iald (p' := 29) (by decide +kernel) rfl (k_169 hw) (fun hj1 => ?_)
    refine ms_iald (p' := 30) (by decide +kernel) rfl (pn_k14 hp hw) (fun hj2 => ?_)
    exact ms_iret (by decide +kernel)
  · refine ms_aload_n (k := 1) (p' := 8) (by decide +kernel) rfl rfl ?_
    refine ms_geti (idx := 19) (ci := 3) (k := 4) (q := 215) (p' := 11) (by decide +kernel) rfl (pn_k hp hw) ?_
    refine ms_goto (off := 19) (p' := 30) (by decide +kernel) ?_
    exact ms_iret (by decide +kernel)
theorem c_H_keepPath {sw : Bool} {w : mj_W} (hw : wk sw w) (f : mj_F)   : mj_call yH_keepPath w f [.inr (.inl 178), .inr (.inl 168)] = mj_gd (0 ≤ (f 178 4) ∧ (f 178 4) < ((16 : Nat) : Int)) (mj_gd (0 ≤ (mj_u f 179 (f 178 4).toNat (-1) 178 4) ∧ (mj_u f 179 (f 178 4).toNat (-1) 178 4) < ((16 : Nat) : Int)) (mj_gd (0 ≤ (20 : Int) ∧ 0 ≤ (0 : Int) ∧ 0 ≤ (mj_w ((mj_u (mj_u f 179 (f 178 4).toNat (-1)) 182 (mj_u f 179 (f 178 4).toNat (-1) 178 4).toNat (mj_u f 179 (f 178 4).toNat (-1) 168 1) 178 4) * 20)) ∧ (0 : Int) + (20 : Int) ≤ ((20 : Nat) : Int) ∧ (mj_w ((mj_u (mj_u f 179 (f 178 4).toNat (-1)) 182 (mj_u f 179 (f 178 4).toNat (-1) 178 4).toNat (mj_u f 179 (f 178 4).toNat (-1) 168 1) 178 4) * 20)) + (20 : Int) ≤ ((320 : Nat) : Int)) (mj_bu (mj_call yH_goOn w (mj_cpy (mj_u (mj_u f 179 (f 178 4).toNat (-1)) 182 (mj_u f 179 (f 178 4).toNat (-1) 178 4).toNat (mj_u f 179 (f 178 4).toNat (-1) 168 1)) 169 (0 : Int).toNat 181 (mj_w ((mj_u (mj_u f 179 (f 178 4).toNat (-1)) 182 (mj_u f 179 (f 178 4).toNat (-1) 178 4).toNat (mj_u f 179 (f 178 4).toNat (-1) 168 1) 178 4) * 20)).toNat (20 : Int).toNat) [.inr (.inl 178)]) (fun f4 => some (w, f4, none))))) := by
  show mj_run yH_keepPath w f 0 [.inr (.inl 178), .inr (.inl 168)] [] = _
  refine ms_aload_n (k := 0) (p' := 1) (by decide +kernel) rfl rfl ?_
  refine ms_getr (idx := 9) (ci := 1) (k := 0) (q := 496) (p' := 4) (by decide +kernel) rfl (k_178 hw) (r_178_0 hw) (by decide) ?_
  refine ms_aload_n (k := 0) (p' := 5) (by decide +kernel) rfl rfl ?_
  refine ms_geti (idx := 27) (ci := 1) (k := 4) (q := 502) (p' := 8) (by decide +kernel) rfl (k_178 hw) ?_
  refine ms_iconst (n := (-1)) (v := (-1)) (p' := 9) (by decide +kernel) rfl ?_
  refine ms_iast (p' := 10) (by decide +kernel) rfl (k_179 hw) (fun hj1 => ?_)
  refine ms_aload_n (k := 0) (p' := 11) (by decide +kernel) rfl rfl ?_
  refine ms_getr (idx := 24) (ci := 1) (k := 3) (q := 501) (p' := 14) (by decide +kernel) rfl (k_178 hw) (r_178_3 hw) (by decide) ?_
  refine ms_aload_n (k := 0) (p' := 15) (by decide +kernel) rfl rfl ?_
  refine ms_geti (idx := 27) (ci := 1) (k := 4) (q := 502) (p' := 18) (by decide +kernel) rfl (k_178 hw) ?_
  refine ms_aload_n (k := 1) (p' := 19) (by decide +kernel) rfl rfl ?_
  refine ms_geti (idx := 42) (ci := 2) (k := 1) (q := 433) (p' := 22) (by decide +kernel) rfl (k_168 hw) ?_
  refine ms_iast (p' := 23) (by decide +kernel) rfl (k_182 hw) (fun hj2 => ?_)
  refine ms_aload_n (k := 1) (p' := 24) (by decide +kernel) rfl rfl ?_
  refine ms_getr (idx := 47) (ci := 2) (k := 0) (q := 429) (p' := 27) (by decide +kernel) rfl (k_168 hw) (r_168_0 hw) (by decide) ?_
  refine ms_iconst (n := 0) (v := 0) (p' := 28) (by decide +kernel) rfl ?_
  refine ms_aload_n (k := 0) (p' := 29) (by decide +kernel) rfl rfl ?_
  refine ms_getr (idx := 21) (ci := 1) (k := 2) (q := 500) (p' := 32) (by decide +kernel) rfl (k_178 hw) (r_178_2 hw) (by decide) ?_
  refine ms_aload_n (k := 0) (p' := 33) (by decide +kernel) rfl rfl ?_
  refine ms_geti (idx := 27) (ci := 1) (k := 4) (q := 502) (p' := 36) (by decide +kernel) rfl (k_178 hw) ?_
  refine ms_bipush (n := 20) (v := 20) (p' := 38) (by decide +kernel) rfl ?_
  refine ms_imul (p' := 39) (by decide +kernel) rfl ?_
  refine ms_bipush (n := 20) (v := 20) (p' := 41) (by decide +kernel) rfl ?_
  refine ms_copy (idx := 50) (x := 0) (q := 964) (p' := 44) (by decide +kernel) rfl rfl (k_169 hw) (k_181 hw) (fun hj3 => ?_)
  refine ms_aload_n (k := 0) (p' := 45) (by decide +kernel) rfl rfl ?_
  refine ms_virt_u (idx := 39) (cy := yH_goOn) (n := 0) (a := 178) (as := []) (rest := []) (p' := 48) (by decide +kernel) rfl rfl rfl rfl (k_178 hw) rfl (fun f4 => ?_)
  exact ms_vret (by decide +kernel)
theorem c_P_setterAhead {sw : Bool} {w : mj_W} (hw : wk sw w) (f : mj_F) (p : Nat) (x2 : Int) (x3 : Int) (hp : pn p) : mj_call yP_setterAhead w f [.inr (.inl 168), .inr (.inl p), .inl x2, .inl x3] = mj_run yP_setterAhead w f 5 [.inr (.inl 168), .inr (.inl p), .inl x2, .inl x3, .inl (mj_w (x2 - 1))] [] := by
  show mj_run yP_setterAhead w f 0 [.inr (.inl 168), .inr (.inl p), .inl x2, .inl x3, .inr (.inr (.inr 0))] [] = _
  refine ms_iload_n (k := 2) (p' := 1) (by decide +kernel) rfl rfl ?_
  refine ms_iconst (n := 1) (v := 1) (p' := 2) (by decide +kernel) rfl ?_
  refine ms_isub (p' := 3) (by decide +kernel) rfl ?_
  refine ms_istore (k := 4) (ls' := [.inr (.inl 168), .inr (.inl p), .inl x2, .inl x3, .inl (mj_w (x2 - 1))]) (p' := 5) (by decide +kernel) rfl (Nat.le_of_ble_eq_true rfl) rfl ?_
  rfl
theorem l_P_setterAhead_5 {sw : Bool} {w : mj_W} (hw : wk sw w) (f : mj_F) (p : Nat) (x2 : Int) (x3 : Int) (x4 : Int) (hp : pn p) : mj_run yP_setterAhead w f 5 [.inr (.inl 168), .inr (.inl p), .inl x2, .inl x3, .inl x4] [] = if x4 < 0 then some (w, f, some (.inl (-1))) else mj_gd (0 ≤ x4 ∧ x4 < ((20 : Nat) : Int)) (mj_bi (mj_call yL_numberSet w f [.inr (.inl p), .inl (f 169 x4.toNat), .inl x3]) (fun f2 v3 => if v3 = (-1) then mj_run yP_setterAhead w f2 5 [.inr (.inl 168), .inr (.inl p), .inl x2, .inl x3, .inl (mj_w (x4 + (-1)))] [] else some (w, f2, some (.inl x4)))) := by
  refine ms_iload (k := 4) (p' := 7) (by decide +kernel) rfl rfl ?_
  refine ms_if_lt (off := 28) (t := 35) (p' := 10) (by decide +kernel) rfl (fun hc => ?_) (fun hc => ?_)
  · refine ms_iconst (n := (-1)) (v := (-1)) (p' := 36) (by decide +kernel) rfl ?_
    exact ms_iret (by decide +kernel)
  · refine ms_aload_n (k := 1) (p' := 11) (by decide +kernel) rfl rfl ?_
    refine ms_aload_n (k := 0) (p' := 12) (by decide +kernel) rfl rfl ?_
    refine ms_getr (idx := 9) (ci := 2) (k := 0) (q := 427) (p' := 15) (by decide +kernel) rfl (k_168 hw) (r_168_0 hw) (by decide) ?_
    refine ms_iload (k := 4) (p' := 17) (by decide +kernel) rfl rfl ?_
    refine ms_iald (p' := 18) (by decide +kernel) rfl (k_169 hw) (fun hj1 => ?_)
    refine ms_iload_n (k := 3) (p' := 19) (by decide +kernel) rfl rfl ?_
    refine ms_virt_i (idx := 27) (cy := yL_numberSet) (n := 2) (a := p) (as := [.inl (f 169 x4.toNat), .inl x3]) (rest := []) (p' := 22) (by decide +kernel) rfl rfl rfl rfl (pn_k hp hw) rfl (fun f2 v3 => ?_)
    refine ms_iconst (n := (-1)) (v := (-1)) (p' := 23) (by decide +kernel) rfl ?_
    refine ms_icmp_eq (off := 6) (t := 29) (p' := 26) (by decide +kernel) rfl (fun hc => ?_) (fun hc => ?_)
    · refine ms_iinc (k := 4) (n := (-1)) (ls' := [.inr (.inl 168), .inr (.inl p), .inl x2, .inl x3, .inl (mj_w (x4 + (-1)))]) (p' := 32) (by decide +kernel) rfl rfl rfl ?_
      refine ms_goto (off := (-27)) (p' := 5) (by decide +kernel) ?_
      rfl
    · refine ms_iload (k := 4) (p' := 28) (by decide +kernel) rfl rfl ?_
      exact ms_iret (by decide +kernel)
theorem c_Z_stepBackBy {sw : Bool} {w : mj_W} (hw : wk sw w) (f : mj_F) (z : Nat) (p : Nat) (x2 : Int) (hz : zn z = true) (hp : pn p) : mj_call yZ_stepBackBy w f [.inr (.inl z), .inr (.inl p), .inl x2] = mj_gd (0 ≤ x2 ∧ x2 < ((16 : Nat) : Int)) (mj_bi (mj_call yX_stayRules w f [.inl (f (p + 9) x2.toNat)]) (fun f2 v3 => mj_bu (mj_call yZ_keepRules w f2 [.inr (.inl z), .inr (.inl p), .inl v3]) (fun f4 => mj_run yZ_stepBackBy w f4 16 [.inr (.inl z), .inr (.inl p), .inl x2, .inl 0, .inr (.inr (.inr 0))] []))) := by
  show mj_run yZ_stepBackBy w f 0 [.inr (.inl z), .inr (.inl p), .inl x2, .inr (.inr (.inr 0)), .inr (.inr (.inr 0))] [] = _
  refine ms_aload_n (k := 0) (p' := 1) (by decide +kernel) rfl rfl ?_
  refine ms_aload_n (k := 1) (p' := 2) (by decide +kernel) rfl rfl ?_
  refine ms_aload_n (k := 1) (p' := 3) (by decide +kernel) rfl rfl ?_
  refine ms_getr (idx := 116) (ci := 3) (k := 14) (q := 260) (p' := 6) (by decide +kernel) rfl (pn_k hp hw) (pn_r14 hp hw) (by omega) ?_
  refine ms_iload_n (k := 2) (p' := 7) (by decide +kernel) rfl rfl ?_
  refine ms_iald (p' := 8) (by decide +kernel) rfl (pn_k14 hp hw) (fun hj1 => ?_)
  refine ms_stat_i (idx := 106) (cy := yX_stayRules) (n := 1) (as := [.inl (f (p + 9) x2.toNat)]) (rest := [.inr (.inl p), .inr (.inl z)]) (p' := 11) (by decide +kernel) rfl rfl rfl rfl rfl (fun f2 v3 => ?_)
  refine ms_virt_u (idx := 109) (cy := yZ_keepRules) (n := 2) (a := z) (as := [.inr (.inl p), .inl v3]) (rest := []) (p' := 14) (by decide +kernel) rfl rfl rfl rfl (zn_k hz hw) rfl (fun f4 => ?_)
  refine ms_iconst (n := 0) (v := 0) (p' := 15) (by decide +kernel) rfl ?_
  refine ms_istore_n (k := 3) (ls' := [.inr (.inl z), .inr (.inl p), .inl x2, .inl 0, .inr (.inr (.inr 0))]) (p' := 16) (by decide +kernel) rfl (Nat.le_of_ble_eq_true rfl) rfl ?_
  rfl
theorem l_Z_stepBackBy_16 {sw : Bool} {w : mj_W} (hw : wk sw w) (f : mj_F) (z : Nat) (p : Nat) (x2 : Int) (x3 : Int) (u4 : mj_V) (hz : zn z = true) (hp : pn p) : mj_run yZ_stepBackBy w f 16 [.inr (.inl z), .inr (.inl p), .inl x2, .inl x3, u4] [] = mj_gd (0 ≤ x2 ∧ x2 < ((16 : Nat) : Int)) (if (f (p + 10) x2.toNat) ≤ x3 then mj_run yZ_stepBackBy w f 63 [.inr (.inl z), .inr (.inl p), .inl x2, .inl 0, u4] [] else mj_gd (0 ≤ (mj_w ((mj_w (x2 * 4)) + x3)) ∧ (mj_w ((mj_w (x2 * 4)) + x3)) < ((64 : Nat) : Int)) (mj_gd (0 ≤ (mj_w ((mj_w (x2 * 4)) + x3)) ∧ (mj_w ((mj_w (x2 * 4)) + x3)) < ((64 : Nat) : Int)) (mj_bu (mj_call yZ_relate w f [.inr (.inl z), .inl (mj_w ((f (p + 11) (mj_w ((mj_w (x2 * 4)) + x3)).toNat) + 1)), .inl 0, .inl 2, .inl (f (p + 12) (mj_w ((mj_w (x2 * 4)) + x3)).toNat)]) (fun f8 => mj_run yZ_stepBackBy w f8 16 [.inr (.inl z), .inr (.inl p), .inl x2, .inl (mj_w (x3 + 1)), .inl (mj_w ((mj_w (x2 * 4)) + x3))] [])))) := by
  refine ms_iload_n (k := 3) (p' := 17) (by decide +kernel) rfl rfl ?_
  refine ms_aload_n (k := 1) (p' := 18) (by decide +kernel) rfl rfl ?_
  refine ms_getr (idx := 94) (ci := 3) (k := 15) (q := 264) (p' := 21) (by decide +kernel) rfl (pn_k hp hw) (pn_r15 hp hw) (by omega) ?_
  refine ms_iload_n (k := 2) (p' := 22) (by decide +kernel) rfl rfl ?_
  refine ms_iald (p' := 23) (by decide +kernel) rfl (pn_k15 hp hw) (fun hj5 => ?_)
  refine ms_icmp_ge (off := 38) (t := 61) (p' := 26) (by decide +kernel) rfl (fun hc => ?_) (fun hc => ?_)
  · refine ms_iconst (n := 0) (v := 0) (p' := 62) (by decide +kernel) rfl ?_
    refine ms_istore_n (k := 3) (ls' := [.inr (.inl z), .inr (.inl p), .inl x2, .inl 0, u4]) (p' := 63) (by decide +kernel) rfl (Nat.le_of_ble_eq_true rfl) rfl ?_
    rfl
  · refine ms_iload_n (k := 2) (p' := 27) (by decide +kernel) rfl rfl ?_
    refine ms_iconst (n := 4) (v := 4) (p' := 28) (by decide +kernel) rfl ?_
    refine ms_imul (p' := 29) (by decide +kernel) rfl ?_
    refine ms_iload_n (k := 3) (p' := 30) (by decide +kernel) rfl rfl ?_
    refine ms_iadd (p' := 31) (by decide +kernel) rfl ?_
    refine ms_istore (k := 4) (ls' := [.inr (.inl z), .inr (.inl p), .inl x2, .inl x3, .inl (mj_w ((mj_w (x2 * 4)) + x3))]) (p' := 33) (by decide +kernel) rfl (Nat.le_of_ble_eq_true rfl) rfl ?_
    refine ms_aload_n (k := 0) (p' := 34) (by decide +kernel) rfl rfl ?_
    refine ms_aload_n (k := 1) (p' := 35) (by decide +kernel) rfl rfl ?_
    refine ms_getr (idx := 97) (ci := 3) (k := 16) (q := 268) (p' := 38) (by decide +kernel) rfl (pn_k hp hw) (pn_r16 hp hw) (by omega) ?_
    refine ms_iload (k := 4) (p' := 40) (by decide +kernel) rfl rfl ?_
    refine ms_iald (p' := 41) (by decide +kernel) rfl (pn_k16 hp hw) (fun hj6 => ?_)
    refine ms_iconst (n := 1) (v := 1) (p' := 42) (by decide +kernel) rfl ?_
    refine ms_iadd (p' := 43) (by decide +kernel) rfl ?_
    refine ms_iconst (n := 0) (v := 0) (p' := 44) (by decide +kernel) rfl ?_
    refine ms_iconst (n := 2) (v := 2) (p' := 45) (by decide +kernel) rfl ?_
    refine ms_aload_n (k := 1) (p' := 46) (by decide +kernel) rfl rfl ?_
    refine ms_getr (idx := 100) (ci := 3) (k := 17) (q := 272) (p' := 49) (by decide +kernel) rfl (pn_k hp hw) (pn_r17 hp hw) (by omega) ?_
    refine ms_iload (k := 4) (p' := 51) (by decide +kernel) rfl rfl ?_
    refine ms_iald (p' := 52) (by decide +kernel) rfl (pn_k17 hp hw) (fun hj7 => ?_)
    refine ms_virt_u (idx := 125) (cy := yZ_relate) (n := 4) (a := z) (as := [.inl (mj_w ((f (p + 11) (mj_w ((mj_w (x2 * 4)) + x3)).toNat) + 1)), .inl 0, .inl 2, .inl (f (p + 12) (mj_w ((mj_w (x2 * 4)) + x3)).toNat)]) (rest := []) (p' := 55) (by decide +kernel) rfl rfl rfl rfl (zn_k hz hw) rfl (fun f8 => ?_)
    refine ms_iinc (k := 3) (n := 1) (ls' := [.inr (.inl z), .inr (.inl p), .inl x2, .inl (mj_w (x3 + 1)), .inl (mj_w ((mj_w (x2 * 4)) + x3))]) (p' := 58) (by decide +kernel) rfl rfl rfl ?_
    refine ms_goto (off := (-42)) (p' := 16) (by decide +kernel) ?_
    rfl
theorem l_Z_stepBackBy_63 {sw : Bool} {w : mj_W} (hw : wk sw w) (f : mj_F) (z : Nat) (p : Nat) (x2 : Int) (x3 : Int) (u4 : mj_V) (hz : zn z = true) (hp : pn p) : mj_run yZ_stepBackBy w f 63 [.inr (.inl z), .inr (.inl p), .inl x2, .inl x3, u4] [] = mj_gd (0 ≤ x2 ∧ x2 < ((16 : Nat) : Int)) (if (f (p + 10) x2.toNat) ≤ x3 then mj_bi (mj_call yX_edgeRules w f [.inl x2]) (fun f10 v11 => mj_bu (mj_call yZ_keepRules w f10 [.inr (.inl z), .inr (.inl p), .inl v11]) (fun f12 => some (w, f12, none))) else mj_gd (0 ≤ (mj_w ((mj_w (x2 * 4)) + x3)) ∧ (mj_w ((mj_w (x2 * 4)) + x3)) < ((64 : Nat) : Int)) (mj_bu (mj_call yZ_release w f [.inr (.inl z), .inl (mj_w ((f (p + 11) (mj_w ((mj_w (x2 * 4)) + x3)).toNat) + 1))]) (fun f14 => mj_run yZ_stepBackBy w f14 63 [.inr (.inl z), .inr (.inl p), .inl x2, .inl (mj_w (x3 + 1)), u4] []))) := by
  refine ms_iload_n (k := 3) (p' := 64) (by decide +kernel) rfl rfl ?_
  refine ms_aload_n (k := 1) (p' := 65) (by decide +kernel) rfl rfl ?_
  refine ms_getr (idx := 94) (ci := 3) (k := 15) (q := 264) (p' := 68) (by decide +kernel) rfl (pn_k hp hw) (pn_r15 hp hw) (by omega) ?_
  refine ms_iload_n (k := 2) (p' := 69) (by decide +kernel) rfl rfl ?_
  refine ms_iald (p' := 70) (by decide +kernel) rfl (pn_k15 hp hw) (fun hj9 => ?_)
  refine ms_icmp_ge (off := 25) (t := 95) (p' := 73) (by decide +kernel) rfl (fun hc => ?_) (fun hc => ?_)
  · refine ms_aload_n (k := 0) (p' := 96) (by decide +kernel) rfl rfl ?_
    refine ms_aload_n (k := 1) (p' := 97) (by decide +kernel) rfl rfl ?_
    refine ms_iload_n (k := 2) (p' := 98) (by decide +kernel) rfl rfl ?_
    refine ms_stat_i (idx := 119) (cy := yX_edgeRules) (n := 1) (as := [.inl x2]) (rest := [.inr (.inl p), .inr (.inl z)]) (p' := 101) (by decide +kernel) rfl rfl rfl rfl rfl (fun f10 v11 => ?_)
    refine ms_virt_u (idx := 109) (cy := yZ_keepRules) (n := 2) (a := z) (as := [.inr (.inl p), .inl v11]) (rest := []) (p' := 104) (by decide +kernel) rfl rfl rfl rfl (zn_k hz hw) rfl (fun f12 => ?_)
    exact ms_vret (by decide +kernel)
  · refine ms_aload_n (k := 0) (p' := 74) (by decide +kernel) rfl rfl ?_
    refine ms_aload_n (k := 1) (p' := 75) (by decide +kernel) rfl rfl ?_
    refine ms_getr (idx := 97) (ci := 3) (k := 16) (q := 268) (p' := 78) (by decide +kernel) rfl (pn_k hp hw) (pn_r16 hp hw) (by omega) ?_
    refine ms_iload_n (k := 2) (p' := 79) (by decide +kernel) rfl rfl ?_
    refine ms_iconst (n := 4) (v := 4) (p' := 80) (by decide +kernel) rfl ?_
    refine ms_imul (p' := 81) (by decide +kernel) rfl ?_
    refine ms_iload_n (k := 3) (p' := 82) (by decide +kernel) rfl rfl ?_
    refine ms_iadd (p' := 83) (by decide +kernel) rfl ?_
    refine ms_iald (p' := 84) (by decide +kernel) rfl (pn_k16 hp hw) (fun hj13 => ?_)
    refine ms_iconst (n := 1) (v := 1) (p' := 85) (by decide +kernel) rfl ?_
    refine ms_iadd (p' := 86) (by decide +kernel) rfl ?_
    refine ms_virt_u (idx := 41) (cy := yZ_release) (n := 1) (a := z) (as := [.inl (mj_w ((f (p + 11) (mj_w ((mj_w (x2 * 4)) + x3)).toNat) + 1))]) (rest := []) (p' := 89) (by decide +kernel) rfl rfl rfl rfl (zn_k hz hw) rfl (fun f14 => ?_)
    refine ms_iinc (k := 3) (n := 1) (ls' := [.inr (.inl z), .inr (.inl p), .inl x2, .inl (mj_w (x3 + 1)), u4]) (p' := 92) (by decide +kernel) rfl rfl rfl ?_
    refine ms_goto (off := (-29)) (p' := 63) (by decide +kernel) ?_
    rfl
theorem c_Z_becomeTimed {sw : Bool} {w : mj_W} (hw : wk sw w) (f : mj_F) (z : Nat) (z1 : Nat) (hz : zn z = true) (hz1 : zn z1 = true) : mj_call yZ_becomeTimed w f [.inr (.inl z), .inr (.inl z1)] = mj_bu (mj_call yZ_become w f [.inr (.inl z), .inr (.inl z1)]) (fun f1 => if (f1 z 1) < 6 then mj_bu (mj_call yZ_put w (mj_u f1 z 1 (mj_w ((f1 z 1) + 1))) [.inr (.inl z), .inl (f1 z 1), .inl (f1 z 1), .inl 1]) (fun f2 => mj_bu (mj_call yZ_assign w f2 [.inr (.inl z), .inl (f1 z 1), .inl 0]) (fun f3 => some (w, f3, none))) else some (w, f1, none)) := by
  show mj_run yZ_becomeTimed w f 0 [.inr (.inl z), .inr (.inl z1), .inr (.inr (.inr 0))] [] = _
  refine ms_aload_n (k := 0) (p' := 1) (by decide +kernel) rfl rfl ?_
  refine ms_aload_n (k := 1) (p' := 2) (by decide +kernel) rfl rfl ?_
  refine ms_virt_u (idx := 50) (cy := yZ_become) (n := 1) (a := z) (as := [.inr (.inl z1)]) (rest := []) (p' := 5) (by decide +kernel) rfl rfl rfl rfl (zn_k hz hw) rfl (fun f1 => ?_)
  refine ms_aload_n (k := 0) (p' := 6) (by decide +kernel) rfl rfl ?_
  refine ms_geti (idx := 15) (ci := 7) (k := 1) (q := 360) (p' := 9) (by decide +kernel) rfl (zn_k hz hw) ?_
  refine ms_bipush (n := 6) (v := 6) (p' := 11) (by decide +kernel) rfl ?_
  refine ms_icmp_lt (off := 4) (t := 15) (p' := 14) (by decide +kernel) rfl (fun hc => ?_) (fun hc => ?_)
  · refine ms_aload_n (k := 0) (p' := 16) (by decide +kernel) rfl rfl ?_
    refine ms_geti (idx := 15) (ci := 7) (k := 1) (q := 360) (p' := 19) (by decide +kernel) rfl (zn_k hz hw) ?_
    refine ms_istore_n (k := 2) (ls' := [.inr (.inl z), .inr (.inl z1), .inl (f1 z 1)]) (p' := 20) (by decide +kernel) rfl (Nat.le_of_ble_eq_true rfl) rfl ?_
    refine ms_aload_n (k := 0) (p' := 21) (by decide +kernel) rfl rfl ?_
    refine ms_dup_a (p' := 22) (by decide +kernel) rfl ?_
    refine ms_geti (idx := 15) (ci := 7) (k := 1) (q := 360) (p' := 25) (by decide +kernel) rfl (zn_k hz hw) ?_
    refine ms_iconst (n := 1) (v := 1) (p' := 26) (by decide +kernel) rfl ?_
    refine ms_iadd (p' := 27) (by decide +kernel) rfl ?_
    refine ms_puti (idx := 15) (ci := 7) (k := 1) (q := 360) (p' := 30) (by decide +kernel) rfl (zn_k hz hw) ?_
    refine ms_aload_n (k := 0) (p' := 31) (by decide +kernel) rfl rfl ?_
    refine ms_iload_n (k := 2) (p' := 32) (by decide +kernel) rfl rfl ?_
    refine ms_iload_n (k := 2) (p' := 33) (by decide +kernel) rfl rfl ?_
    refine ms_iconst (n := 1) (v := 1) (p' := 34) (by decide +kernel) rfl ?_
    refine ms_virt_u (idx := 54) (cy := yZ_put) (n := 3) (a := z) (as := [.inl (f1 z 1), .inl (f1 z 1), .inl 1]) (rest := []) (p' := 37) (by decide +kernel) rfl rfl rfl rfl (zn_k hz hw) rfl (fun f2 => ?_)
    refine ms_aload_n (k := 0) (p' := 38) (by decide +kernel) rfl rfl ?_
    refine ms_iload_n (k := 2) (p' := 39) (by decide +kernel) rfl rfl ?_
    refine ms_iconst (n := 0) (v := 0) (p' := 40) (by decide +kernel) rfl ?_
    refine ms_virt_u (idx := 58) (cy := yZ_assign) (n := 2) (a := z) (as := [.inl (f1 z 1), .inl 0]) (rest := []) (p' := 43) (by decide +kernel) rfl rfl rfl rfl (zn_k hz hw) rfl (fun f3 => ?_)
    exact ms_vret (by decide +kernel)
  · exact ms_vret (by decide +kernel)
theorem c_L_placesBehind {sw : Bool} {w : mj_W} (hw : wk sw w) (f : mj_F) (p : Nat) (x1 : Int) (hp : pn p) : mj_call yL_placesBehind w f [.inr (.inl p), .inl x1] = mj_run yL_placesBehind w f 6 [.inr (.inl p), .inl x1, .inl (mj_shl 1 x1), .inl 0, .inr (.inr (.inr 0))] [] := by
  show mj_run yL_placesBehind w f 0 [.inr (.inl p), .inl x1, .inr (.inr (.inr 0)), .inr (.inr (.inr 0)), .inr (.inr (.inr 0))] [] = _
  refine ms_iconst (n := 1) (v := 1) (p' := 1) (by decide +kernel) rfl ?_
  refine ms_iload_n (k := 1) (p' := 2) (by decide +kernel) rfl rfl ?_
  refine ms_ishl (p' := 3) (by decide +kernel) rfl ?_
  refine ms_istore_n (k := 2) (ls' := [.inr (.inl p), .inl x1, .inl (mj_shl 1 x1), .inr (.inr (.inr 0)), .inr (.inr (.inr 0))]) (p' := 4) (by decide +kernel) rfl (Nat.le_of_ble_eq_true rfl) rfl ?_
  refine ms_iconst (n := 0) (v := 0) (p' := 5) (by decide +kernel) rfl ?_
  refine ms_istore_n (k := 3) (ls' := [.inr (.inl p), .inl x1, .inl (mj_shl 1 x1), .inl 0, .inr (.inr (.inr 0))]) (p' := 6) (by decide +kernel) rfl (Nat.le_of_ble_eq_true rfl) rfl ?_
  rfl
theorem l_L_placesBehind_6 {sw : Bool} {w : mj_W} (hw : wk sw w) (f : mj_F) (p : Nat) (x1 : Int) (x2 : Int) (x3 : Int) (u4 : mj_V) (hp : pn p) : mj_run yL_placesBehind w f 6 [.inr (.inl p), .inl x1, .inl x2, .inl x3, u4] [] = if (f p 2) ≤ x3 then some (w, f, some (.inl x2)) else mj_run yL_placesBehind w f 17 [.inr (.inl p), .inl x1, .inl x2, .inl x3, .inl 0] [] := by
  refine ms_iload_n (k := 3) (p' := 7) (by decide +kernel) rfl rfl ?_
  refine ms_aload_n (k := 0) (p' := 8) (by decide +kernel) rfl rfl ?_
  refine ms_geti (idx := 55) (ci := 3) (k := 2) (q := 208) (p' := 11) (by decide +kernel) rfl (pn_k hp hw) ?_
  refine ms_icmp_ge (off := 54) (t := 65) (p' := 14) (by decide +kernel) rfl (fun hc => ?_) (fun hc => ?_)
  · refine ms_iload_n (k := 2) (p' := 66) (by decide +kernel) rfl rfl ?_
    exact ms_iret (by decide +kernel)
  · refine ms_iconst (n := 0) (v := 0) (p' := 15) (by decide +kernel) rfl ?_
    refine ms_istore (k := 4) (ls' := [.inr (.inl p), .inl x1, .inl x2, .inl x3, .inl 0]) (p' := 17) (by decide +kernel) rfl (Nat.le_of_ble_eq_true rfl) rfl ?_
    rfl
theorem l_L_placesBehind_17 {sw : Bool} {w : mj_W} (hw : wk sw w) (f : mj_F) (p : Nat) (x1 : Int) (x2 : Int) (x3 : Int) (x4 : Int) (hp : pn p) : mj_run yL_placesBehind w f 17 [.inr (.inl p), .inl x1, .inl x2, .inl x3, .inl x4] [] = if (f p 3) ≤ x4 then mj_run yL_placesBehind w f 6 [.inr (.inl p), .inl x1, .inl x2, .inl (mj_w (x3 + 1)), .inl x4] [] else mj_gd (0 ≤ x4 ∧ x4 < ((16 : Nat) : Int)) (if ¬ (mj_and (mj_shr x2 (f (p + 8) x4.toNat)) 1) = 1 then mj_run yL_placesBehind w f 17 [.inr (.inl p), .inl x1, .inl x2, .inl x3, .inl (mj_w (x4 + 1))] [] else mj_gd (0 ≤ x4 ∧ x4 < ((16 : Nat) : Int)) (mj_run yL_placesBehind w f 17 [.inr (.inl p), .inl x1, .inl (mj_or x2 (mj_shl 1 (f (p + 9) x4.toNat))), .inl x3, .inl (mj_w (x4 + 1))] [])) := by
  refine ms_iload (k := 4) (p' := 19) (by decide +kernel) rfl rfl ?_
  refine ms_aload_n (k := 0) (p' := 20) (by decide +kernel) rfl rfl ?_
  refine ms_geti (idx := 58) (ci := 3) (k := 3) (q := 211) (p' := 23) (by decide +kernel) rfl (pn_k hp hw) ?_
  refine ms_icmp_ge (off := 36) (t := 59) (p' := 26) (by decide +kernel) rfl (fun hc => ?_) (fun hc => ?_)
  · refine ms_iinc (k := 3) (n := 1) (ls' := [.inr (.inl p), .inl x1, .inl x2, .inl (mj_w (x3 + 1)), .inl x4]) (p' := 62) (by decide +kernel) rfl rfl rfl ?_
    refine ms_goto (off := (-56)) (p' := 6) (by decide +kernel) ?_
    rfl
  · refine ms_iload_n (k := 2) (p' := 27) (by decide +kernel) rfl rfl ?_
    refine ms_aload_n (k := 0) (p' := 28) (by decide +kernel) rfl rfl ?_
    refine ms_getr (idx := 33) (ci := 3) (k := 13) (q := 247) (p' := 31) (by decide +kernel) rfl (pn_k hp hw) (pn_r13 hp hw) (by omega) ?_
    refine ms_iload (k := 4) (p' := 33) (by decide +kernel) rfl rfl ?_
    refine ms_iald (p' := 34) (by decide +kernel) rfl (pn_k13 hp hw) (fun hj1 => ?_)
    refine ms_ishr (p' := 35) (by decide +kernel) rfl ?_
    refine ms_iconst (n := 1) (v := 1) (p' := 36) (by decide +kernel) rfl ?_
    refine ms_iand (p' := 37) (by decide +kernel) rfl ?_
    refine ms_iconst (n := 1) (v := 1) (p' := 38) (by decide +kernel) rfl ?_
    refine ms_icmp_ne (off := 15) (t := 53) (p' := 41) (by decide +kernel) rfl (fun hc => ?_) (fun hc => ?_)
    · refine ms_iinc (k := 4) (n := 1) (ls' := [.inr (.inl p), .inl x1, .inl x2, .inl x3, .inl (mj_w (x4 + 1))]) (p' := 56) (by decide +kernel) rfl rfl rfl ?_
      refine ms_goto (off := (-39)) (p' := 17) (by decide +kernel) ?_
      rfl
    · refine ms_iload_n (k := 2) (p' := 42) (by decide +kernel) rfl rfl ?_
      refine ms_iconst (n := 1) (v := 1) (p' := 43) (by decide +kernel) rfl ?_
      refine ms_aload_n (k := 0) (p' := 44) (by decide +kernel) rfl rfl ?_
      refine ms_getr (idx := 36) (ci := 3) (k := 14) (q := 253) (p' := 47) (by decide +kernel) rfl (pn_k hp hw) (pn_r14 hp hw) (by omega) ?_
      refine ms_iload (k := 4) (p' := 49) (by decide +kernel) rfl rfl ?_
      refine ms_iald (p' := 50) (by decide +kernel) rfl (pn_k14 hp hw) (fun hj2 => ?_)
      refine ms_ishl (p' := 51) (by decide +kernel) rfl ?_
      refine ms_ior (p' := 52) (by decide +kernel) rfl ?_
      refine ms_istore_n (k := 2) (ls' := [.inr (.inl p), .inl x1, .inl (mj_or x2 (mj_shl 1 (f (p + 9) x4.toNat))), .inl x3, .inl x4]) (p' := 53) (by decide +kernel) rfl (Nat.le_of_ble_eq_true rfl) rfl ?_
      refine ms_iinc (k := 4) (n := 1) (ls' := [.inr (.inl p), .inl x1, .inl (mj_or x2 (mj_shl 1 (f (p + 9) x4.toNat))), .inl x3, .inl (mj_w (x4 + 1))]) (p' := 56) (by decide +kernel) rfl rfl rfl ?_
      refine ms_goto (off := (-39)) (p' := 17) (by decide +kernel) ?_
      rfl
theorem c_L_hasRuleOf {sw : Bool} {w : mj_W} (hw : wk sw w) (f : mj_F) (p : Nat) (x1 : Int) (x2 : Int) (hp : pn p) : mj_call yL_hasRuleOf w f [.inr (.inl p), .inl x1, .inl x2] = mj_run yL_hasRuleOf w f 2 [.inr (.inl p), .inl x1, .inl x2, .inl 0] [] := by
  show mj_run yL_hasRuleOf w f 0 [.inr (.inl p), .inl x1, .inl x2, .inr (.inr (.inr 0))] [] = _
  refine ms_iconst (n := 0) (v := 0) (p' := 1) (by decide +kernel) rfl ?_
  refine ms_istore_n (k := 3) (ls' := [.inr (.inl p), .inl x1, .inl x2, .inl 0]) (p' := 2) (by decide +kernel) rfl (Nat.le_of_ble_eq_true rfl) rfl ?_
  rfl
theorem l_L_hasRuleOf_2 {sw : Bool} {w : mj_W} (hw : wk sw w) (f : mj_F) (p : Nat) (x1 : Int) (x2 : Int) (x3 : Int) (hp : pn p) : mj_run yL_hasRuleOf w f 2 [.inr (.inl p), .inl x1, .inl x2, .inl x3] [] = mj_gd (0 ≤ x1 ∧ x1 < ((24 : Nat) : Int)) (if (f (p + 4) x1.toNat) ≤ x3 then some (w, f, some (.inl 0)) else mj_gd (0 ≤ (mj_w ((mj_w (x1 * 6)) + x3)) ∧ (mj_w ((mj_w (x1 * 6)) + x3)) < ((144 : Nat) : Int)) (if ¬ (f (p + 5) (mj_w ((mj_w (x1 * 6)) + x3)).toNat) = x2 then mj_run yL_hasRuleOf w f 2 [.inr (.inl p), .inl x1, .inl x2, .inl (mj_w (x3 + 1))] [] else some (w, f, some (.inl 1)))) := by
  refine ms_iload_n (k := 3) (p' := 3) (by decide +kernel) rfl rfl ?_
  refine ms_aload_n (k := 0) (p' := 4) (by decide +kernel) rfl rfl ?_
  refine ms_getr (idx := 21) (ci := 3) (k := 9) (q := 231) (p' := 7) (by decide +kernel) rfl (pn_k hp hw) (pn_r9 hp hw) (by omega) ?_
  refine ms_iload_n (k := 1) (p' := 8) (by decide +kernel) rfl rfl ?_
  refine ms_iald (p' := 9) (by decide +kernel) rfl (pn_k9 hp hw) (fun hj1 => ?_)
  refine ms_icmp_ge (off := 26) (t := 35) (p' := 12) (by decide +kernel) rfl (fun hc => ?_) (fun hc => ?_)
  · refine ms_iconst (n := 0) (v := 0) (p' := 36) (by decide +kernel) rfl ?_
    exact (ms_zret (by decide +kernel)).trans (mj_gd_pos (by decide) _)
  · refine ms_aload_n (k := 0) (p' := 13) (by decide +kernel) rfl rfl ?_
    refine ms_getr (idx := 24) (ci := 3) (k := 10) (q := 235) (p' := 16) (by decide +kernel) rfl (pn_k hp hw) (pn_r10 hp hw) (by omega) ?_
    refine ms_iload_n (k := 1) (p' := 17) (by decide +kernel) rfl rfl ?_
    refine ms_bipush (n := 6) (v := 6) (p' := 19) (by decide +kernel) rfl ?_
    refine ms_imul (p' := 20) (by decide +kernel) rfl ?_
    refine ms_iload_n (k := 3) (p' := 21) (by decide +kernel) rfl rfl ?_
    refine ms_iadd (p' := 22) (by decide +kernel) rfl ?_
    refine ms_iald (p' := 23) (by decide +kernel) rfl (pn_k10 hp hw) (fun hj2 => ?_)
    refine ms_iload_n (k := 2) (p' := 24) (by decide +kernel) rfl rfl ?_
    refine ms_icmp_ne (off := 5) (t := 29) (p' := 27) (by decide +kernel) rfl (fun hc => ?_) (fun hc => ?_)
    · refine ms_iinc (k := 3) (n := 1) (ls' := [.inr (.inl p), .inl x1, .inl x2, .inl (mj_w (x3 + 1))]) (p' := 32) (by decide +kernel) rfl rfl rfl ?_
      refine ms_goto (off := (-30)) (p' := 2) (by decide +kernel) ?_
      rfl
    · refine ms_iconst (n := 1) (v := 1) (p' := 28) (by decide +kernel) rfl ?_
      exact (ms_zret (by decide +kernel)).trans (mj_gd_pos (by decide) _)
theorem c_L_listsWith {sw : Bool} {w : mj_W} (hw : wk sw w) (f : mj_F) (p : Nat) (x1 : Int) (x2 : Int) (x3 : Int) (hp : pn p) : mj_call yL_listsWith w f [.inr (.inl p), .inl x1, .inl x2, .inl x3] = mj_run yL_listsWith w f 6 [.inr (.inl p), .inl x1, .inl x2, .inl x3, .inl 0, .inl 0] [] := by
  show mj_run yL_listsWith w f 0 [.inr (.inl p), .inl x1, .inl x2, .inl x3, .inr (.inr (.inr 0)), .inr (.inr (.inr 0))] [] = _
  refine ms_iconst (n := 0) (v := 0) (p' := 1) (by decide +kernel) rfl ?_
  refine ms_istore (k := 4) (ls' := [.inr (.inl p), .inl x1, .inl x2, .inl x3, .inl 0, .inr (.inr (.inr 0))]) (p' := 3) (by decide +kernel) rfl (Nat.le_of_ble_eq_true rfl) rfl ?_
  refine ms_iconst (n := 0) (v := 0) (p' := 4) (by decide +kernel) rfl ?_
  refine ms_istore (k := 5) (ls' := [.inr (.inl p), .inl x1, .inl x2, .inl x3, .inl 0, .inl 0]) (p' := 6) (by decide +kernel) rfl (Nat.le_of_ble_eq_true rfl) rfl ?_
  rfl
theorem l_L_listsWith_6 {sw : Bool} {w : mj_W} (hw : wk sw w) (f : mj_F) (p : Nat) (x1 : Int) (x2 : Int) (x3 : Int) (x4 : Int) (x5 : Int) (hp : pn p) : mj_run yL_listsWith w f 6 [.inr (.inl p), .inl x1, .inl x2, .inl x3, .inl x4, .inl x5] [] = if x3 ≤ x5 then some (w, f, some (.inl x4)) else mj_bi (mj_call yL_hasRuleOf w f [.inr (.inl p), .inl (mj_w (x2 + x5)), .inl x1]) (fun f1 v2 => if v2 = 0 then mj_run yL_listsWith w f1 6 [.inr (.inl p), .inl x1, .inl x2, .inl x3, .inl x4, .inl (mj_w (x5 + 1))] [] else mj_run yL_listsWith w f1 6 [.inr (.inl p), .inl x1, .inl x2, .inl x3, .inl (mj_or x4 (mj_shl 1 x5)), .inl (mj_w (x5 + 1))] []) := by
  refine ms_iload (k := 5) (p' := 8) (by decide +kernel) rfl rfl ?_
  refine ms_iload_n (k := 3) (p' := 9) (by decide +kernel) rfl rfl ?_
  refine ms_icmp_ge (off := 30) (t := 39) (p' := 12) (by decide +kernel) rfl (fun hc => ?_) (fun hc => ?_)
  · refine ms_iload (k := 4) (p' := 41) (by decide +kernel) rfl rfl ?_
    exact ms_iret (by decide +kernel)
  · refine ms_aload_n (k := 0) (p' := 13) (by decide +kernel) rfl rfl ?_
    refine ms_iload_n (k := 2) (p' := 14) (by decide +kernel) rfl rfl ?_
    refine ms_iload (k := 5) (p' := 16) (by decide +kernel) rfl rfl ?_
    refine ms_iadd (p' := 17) (by decide +kernel) rfl ?_
    refine ms_iload_n (k := 1) (p' := 18) (by decide +kernel) rfl rfl ?_
    refine ms_virt_i (idx := 87) (cy := yL_hasRuleOf) (n := 2) (a := p) (as := [.inl (mj_w (x2 + x5)), .inl x1]) (rest := []) (p' := 21) (by decide +kernel) rfl rfl rfl rfl (pn_k hp hw) rfl (fun f1 v2 => ?_)
    refine ms_if_eq (off := 12) (t := 33) (p' := 24) (by decide +kernel) rfl (fun hc => ?_) (fun hc => ?_)
    · refine ms_iinc (k := 5) (n := 1) (ls' := [.inr (.inl p), .inl x1, .inl x2, .inl x3, .inl x4, .inl (mj_w (x5 + 1))]) (p' := 36) (by decide +kernel) rfl rfl rfl ?_
      refine ms_goto (off := (-30)) (p' := 6) (by decide +kernel) ?_
      rfl
    · refine ms_iload (k := 4) (p' := 26) (by decide +kernel) rfl rfl ?_
      refine ms_iconst (n := 1) (v := 1) (p' := 27) (by decide +kernel) rfl ?_
      refine ms_iload (k := 5) (p' := 29) (by decide +kernel) rfl rfl ?_
      refine ms_ishl (p' := 30) (by decide +kernel) rfl ?_
      refine ms_ior (p' := 31) (by decide +kernel) rfl ?_
      refine ms_istore (k := 4) (ls' := [.inr (.inl p), .inl x1, .inl x2, .inl x3, .inl (mj_or x4 (mj_shl 1 x5)), .inl x5]) (p' := 33) (by decide +kernel) rfl (Nat.le_of_ble_eq_true rfl) rfl ?_
      refine ms_iinc (k := 5) (n := 1) (ls' := [.inr (.inl p), .inl x1, .inl x2, .inl x3, .inl (mj_or x4 (mj_shl 1 x5)), .inl (mj_w (x5 + 1))]) (p' := 36) (by decide +kernel) rfl rfl rfl ?_
      refine ms_goto (off := (-30)) (p' := 6) (by decide +kernel) ?_
      rfl
theorem c_L_edgesThatSet {sw : Bool} {w : mj_W} (hw : wk sw w) (f : mj_F) (p : Nat) (x1 : Int) (hp : pn p) : mj_call yL_edgesThatSet w f [.inr (.inl p), .inl x1] = mj_run yL_edgesThatSet w f 4 [.inr (.inl p), .inl x1, .inl 0, .inl 0] [] := by
  show mj_run yL_edgesThatSet w f 0 [.inr (.inl p), .inl x1, .inr (.inr (.inr 0)), .inr (.inr (.inr 0))] [] = _
  refine ms_iconst (n := 0) (v := 0) (p' := 1) (by decide +kernel) rfl ?_
  refine ms_istore_n (k := 2) (ls' := [.inr (.inl p), .inl x1, .inl 0, .inr (.inr (.inr 0))]) (p' := 2) (by decide +kernel) rfl (Nat.le_of_ble_eq_true rfl) rfl ?_
  refine ms_iconst (n := 0) (v := 0) (p' := 3) (by decide +kernel) rfl ?_
  refine ms_istore_n (k := 3) (ls' := [.inr (.inl p), .inl x1, .inl 0, .inl 0]) (p' := 4) (by decide +kernel) rfl (Nat.le_of_ble_eq_true rfl) rfl ?_
  rfl
theorem l_L_edgesThatSet_4 {sw : Bool} {w : mj_W} (hw : wk sw w) (f : mj_F) (p : Nat) (x1 : Int) (x2 : Int) (x3 : Int) (hp : pn p) : mj_run yL_edgesThatSet w f 4 [.inr (.inl p), .inl x1, .inl x2, .inl x3] [] = if (f p 3) ≤ x3 then some (w, f, some (.inl x2)) else mj_bi (mj_call yL_numberSet w f [.inr (.inl p), .inl x3, .inl x1]) (fun f1 v2 => if v2 = (-1) then mj_run yL_edgesThatSet w f1 4 [.inr (.inl p), .inl x1, .inl x2, .inl (mj_w (x3 + 1))] [] else mj_run yL_edgesThatSet w f1 4 [.inr (.inl p), .inl x1, .inl (mj_or x2 (mj_shl 1 x3)), .inl (mj_w (x3 + 1))] []) := by
  refine ms_iload_n (k := 3) (p' := 5) (by decide +kernel) rfl rfl ?_
  refine ms_aload_n (k := 0) (p' := 6) (by decide +kernel) rfl rfl ?_
  refine ms_geti (idx := 58) (ci := 3) (k := 3) (q := 211) (p' := 9) (by decide +kernel) rfl (pn_k hp hw) ?_
  refine ms_icmp_ge (off := 25) (t := 34) (p' := 12) (by decide +kernel) rfl (fun hc => ?_) (fun hc => ?_)
  · refine ms_iload_n (k := 2) (p' := 35) (by decide +kernel) rfl rfl ?_
    exact ms_iret (by decide +kernel)
  · refine ms_aload_n (k := 0) (p' := 13) (by decide +kernel) rfl rfl ?_
    refine ms_iload_n (k := 3) (p' := 14) (by decide +kernel) rfl rfl ?_
    refine ms_iload_n (k := 1) (p' := 15) (by decide +kernel) rfl rfl ?_
    refine ms_virt_i (idx := 84) (cy := yL_numberSet) (n := 2) (a := p) (as := [.inl x3, .inl x1]) (rest := []) (p' := 18) (by decide +kernel) rfl rfl rfl rfl (pn_k hp hw) rfl (fun f1 v2 => ?_)
    refine ms_iconst (n := (-1)) (v := (-1)) (p' := 19) (by decide +kernel) rfl ?_
    refine ms_icmp_eq (off := 9) (t := 28) (p' := 22) (by decide +kernel) rfl (fun hc => ?_) (fun hc => ?_)
    · refine ms_iinc (k := 3) (n := 1) (ls' := [.inr (.inl p), .inl x1, .inl x2, .inl (mj_w (x3 + 1))]) (p' := 31) (by decide +kernel) rfl rfl rfl ?_
      refine ms_goto (off := (-27)) (p' := 4) (by decide +kernel) ?_
      rfl
    · refine ms_iload_n (k := 2) (p' := 23) (by decide +kernel) rfl rfl ?_
      refine ms_iconst (n := 1) (v := 1) (p' := 24) (by decide +kernel) rfl ?_
      refine ms_iload_n (k := 3) (p' := 25) (by decide +kernel) rfl rfl ?_
      refine ms_ishl (p' := 26) (by decide +kernel) rfl ?_
      refine ms_ior (p' := 27) (by decide +kernel) rfl ?_
      refine ms_istore_n (k := 2) (ls' := [.inr (.inl p), .inl x1, .inl (mj_or x2 (mj_shl 1 x3)), .inl x3]) (p' := 28) (by decide +kernel) rfl (Nat.le_of_ble_eq_true rfl) rfl ?_
      refine ms_iinc (k := 3) (n := 1) (ls' := [.inr (.inl p), .inl x1, .inl (mj_or x2 (mj_shl 1 x3)), .inl (mj_w (x3 + 1))]) (p' := 31) (by decide +kernel) rfl rfl rfl ?_
      refine ms_goto (off := (-27)) (p' := 4) (by decide +kernel) ?_
      rfl
