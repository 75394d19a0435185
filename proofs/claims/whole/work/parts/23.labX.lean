/-! What each method does from its entry (c_), and from the heads of its loops (l_). Written by wip/whole/gen/mkall.py out of the bytes. -/
theorem c_X_feed {sw : Bool} {w : mj_W} (hw : wk sw w) (f : mj_F) (x1 : Int) (x2 : Int) (x3 : Int) (x4 : Int) (x5 : Int)  : mj_call yX_feed w f [.inr (.inl 2), .inl x1, .inl x2, .inl x3, .inl x4, .inl x5] = if (mj_w ((f 3 1) + 20)) ≤ 900 then mj_bu (mj_call yR_putBytes w f [.inr (.inl 3), .inl x1]) (fun f1 => mj_bu (mj_call yR_putBytes w f1 [.inr (.inl 3), .inl x2]) (fun f2 => mj_bu (mj_call yR_putBytes w f2 [.inr (.inl 3), .inl x3]) (fun f3 => mj_bu (mj_call yR_putBytes w f3 [.inr (.inl 3), .inl x4]) (fun f4 => mj_bu (mj_call yR_putBytes w f4 [.inr (.inl 3), .inl x5]) (fun f5 => some (w, f5, some (.inl (f5 3 1)))))))) else some (w, f, some (.inl (-1))) := by
  show mj_run yX_feed w f 0 [.inr (.inl 2), .inl x1, .inl x2, .inl x3, .inl x4, .inl x5] [] = _
  refine ms_aload_n (k := 0) (p' := 1) (by decide +kernel) rfl rfl ?_
  refine ms_getr (idx := 12) (ci := 8) (k := 0) (q := 518) (p' := 4) (by decide +kernel) rfl (k_2 hw) (r_2_0 hw) (by decide) ?_
  refine ms_geti (idx := 76) (ci := 4) (k := 1) (q := 314) (p' := 7) (by decide +kernel) rfl (k_3 hw) ?_
  refine ms_bipush (n := 20) (v := 20) (p' := 9) (by decide +kernel) rfl ?_
  refine ms_iadd (p' := 10) (by decide +kernel) rfl ?_
  refine ms_sipush (n := 900) (v := 900) (p' := 13) (by decide +kernel) rfl ?_
  refine ms_icmp_le (off := 5) (t := 18) (p' := 16) (by decide +kernel) rfl (fun hc => ?_) (fun hc => ?_)
  · refine ms_aload_n (k := 0) (p' := 19) (by decide +kernel) rfl rfl ?_
    refine ms_getr (idx := 12) (ci := 8) (k := 0) (q := 518) (p' := 22) (by decide +kernel) rfl (k_2 hw) (r_2_0 hw) (by decide) ?_
    refine ms_iload_n (k := 1) (p' := 23) (by decide +kernel) rfl rfl ?_
    refine ms_virt_u (idx := 80) (cy := yR_putBytes) (n := 1) (a := 3) (as := [.inl x1]) (rest := []) (p' := 26) (by decide +kernel) rfl rfl rfl rfl (k_3 hw) rfl (fun f1 => ?_)
    refine ms_aload_n (k := 0) (p' := 27) (by decide +kernel) rfl rfl ?_
    refine ms_getr (idx := 12) (ci := 8) (k := 0) (q := 518) (p' := 30) (by decide +kernel) rfl (k_2 hw) (r_2_0 hw) (by decide) ?_
    refine ms_iload_n (k := 2) (p' := 31) (by decide +kernel) rfl rfl ?_
    refine ms_virt_u (idx := 80) (cy := yR_putBytes) (n := 1) (a := 3) (as := [.inl x2]) (rest := []) (p' := 34) (by decide +kernel) rfl rfl rfl rfl (k_3 hw) rfl (fun f2 => ?_)
    refine ms_aload_n (k := 0) (p' := 35) (by decide +kernel) rfl rfl ?_
    refine ms_getr (idx := 12) (ci := 8) (k := 0) (q := 518) (p' := 38) (by decide +kernel) rfl (k_2 hw) (r_2_0 hw) (by decide) ?_
    refine ms_iload_n (k := 3) (p' := 39) (by decide +kernel) rfl rfl ?_
    refine ms_virt_u (idx := 80) (cy := yR_putBytes) (n := 1) (a := 3) (as := [.inl x3]) (rest := []) (p' := 42) (by decide +kernel) rfl rfl rfl rfl (k_3 hw) rfl (fun f3 => ?_)
    refine ms_aload_n (k := 0) (p' := 43) (by decide +kernel) rfl rfl ?_
    refine ms_getr (idx := 12) (ci := 8) (k := 0) (q := 518) (p' := 46) (by decide +kernel) rfl (k_2 hw) (r_2_0 hw) (by decide) ?_
    refine ms_iload (k := 4) (p' := 48) (by decide +kernel) rfl rfl ?_
    refine ms_virt_u (idx := 80) (cy := yR_putBytes) (n := 1) (a := 3) (as := [.inl x4]) (rest := []) (p' := 51) (by decide +kernel) rfl rfl rfl rfl (k_3 hw) rfl (fun f4 => ?_)
    refine ms_aload_n (k := 0) (p' := 52) (by decide +kernel) rfl rfl ?_
    refine ms_getr (idx := 12) (ci := 8) (k := 0) (q := 518) (p' := 55) (by decide +kernel) rfl (k_2 hw) (r_2_0 hw) (by decide) ?_
    refine ms_iload (k := 5) (p' := 57) (by decide +kernel) rfl rfl ?_
    refine ms_virt_u (idx := 80) (cy := yR_putBytes) (n := 1) (a := 3) (as := [.inl x5]) (rest := []) (p' := 60) (by decide +kernel) rfl rfl rfl rfl (k_3 hw) rfl (fun f5 => ?_)
    refine ms_aload_n (k := 0) (p' := 61) (by decide +kernel) rfl rfl ?_
    refine ms_getr (idx := 12) (ci := 8) (k := 0) (q := 518) (p' := 64) (by decide +kernel) rfl (k_2 hw) (r_2_0 hw) (by decide) ?_
    refine ms_geti (idx := 76) (ci := 4) (k := 1) (q := 314) (p' := 67) (by decide +kernel) rfl (k_3 hw) ?_
    exact ms_iret (by decide +kernel)
  · refine ms_iconst (n := (-1)) (v := (-1)) (p' := 17) (by decide +kernel) rfl ?_
    exact ms_iret (by decide +kernel)
theorem c_X_beginAnew {sw : Bool} {w : mj_W} (hw : wk sw w) (f : mj_F)   : mj_call yX_beginAnew w f [.inr (.inl 2)] = mj_run yX_beginAnew w f 2 [.inr (.inl 2), .inl 0] [] := by
  show mj_run yX_beginAnew w f 0 [.inr (.inl 2), .inr (.inr (.inr 0))] [] = _
  refine ms_iconst (n := 0) (v := 0) (p' := 1) (by decide +kernel) rfl ?_
  refine ms_istore_n (k := 1) (ls' := [.inr (.inl 2), .inl 0]) (p' := 2) (by decide +kernel) rfl (Nat.le_of_ble_eq_true rfl) rfl ?_
  rfl
theorem l_X_beginAnew_2 {sw : Bool} {w : mj_W} (hw : wk sw w) (f : mj_F) (x1 : Int)  : mj_run yX_beginAnew w f 2 [.inr (.inl 2), .inl x1] [] = if 4 ≤ x1 then mj_bu (mj_call yH_forgetAll w (mj_u (mj_u f 168 1 0) 170 4 1) [.inr (.inl 178)]) (fun f1 => some (w, f1, none)) else mj_gd (0 ≤ x1 ∧ x1 < ((4 : Nat) : Int)) (mj_bu (mj_call yZ_layZero w f [.inr (.inl (215 + 2 * x1.toNat)), .inl (mj_w ((f (pl sw) 1) + 1))]) (fun f3 => mj_run yX_beginAnew w f3 2 [.inr (.inl 2), .inl (mj_w (x1 + 1))] [])) := by
  refine ms_iload_n (k := 1) (p' := 3) (by decide +kernel) rfl rfl ?_
  refine ms_iconst (n := 4) (v := 4) (p' := 4) (by decide +kernel) rfl ?_
  refine ms_icmp_ge (off := 27) (t := 31) (p' := 7) (by decide +kernel) rfl (fun hc => ?_) (fun hc => ?_)
  · refine ms_aload_n (k := 0) (p' := 32) (by decide +kernel) rfl rfl ?_
    refine ms_getr (idx := 51) (ci := 8) (k := 7) (q := 525) (p' := 35) (by decide +kernel) rfl (k_2 hw) (r_2_7 hw) (by decide) ?_
    refine ms_iconst (n := 0) (v := 0) (p' := 36) (by decide +kernel) rfl ?_
    refine ms_puti (idx := 375) (ci := 2) (k := 1) (q := 434) (p' := 39) (by decide +kernel) rfl (k_168 hw) ?_
    refine ms_aload_n (k := 0) (p' := 40) (by decide +kernel) rfl rfl ?_
    refine ms_getr (idx := 58) (ci := 8) (k := 8) (q := 526) (p' := 43) (by decide +kernel) rfl (k_2 hw) (r_2_8 hw) (by decide) ?_
    refine ms_iconst (n := 1) (v := 1) (p' := 44) (by decide +kernel) rfl ?_
    refine Eq.trans (ms_putz (idx := 265) (ci := 5) (k := 4) (q := 451) (p' := 47) (by decide +kernel) rfl (k_170 hw) (fun _ => ?_)) (mj_gd_pos (by decide) _)
    refine ms_aload_n (k := 0) (p' := 48) (by decide +kernel) rfl rfl ?_
    refine ms_getr (idx := 72) (ci := 8) (k := 10) (q := 528) (p' := 51) (by decide +kernel) rfl (k_2 hw) (r_2_10 hw) (by decide) ?_
    refine ms_virt_u (idx := 421) (cy := yH_forgetAll) (n := 0) (a := 178) (as := []) (rest := []) (p' := 54) (by decide +kernel) rfl rfl rfl rfl (k_178 hw) rfl (fun f1 => ?_)
    exact ms_vret (by decide +kernel)
  · refine ms_aload_n (k := 0) (p' := 8) (by decide +kernel) rfl rfl ?_
    refine ms_getr (idx := 25) (ci := 8) (k := 2) (q := 520) (p' := 11) (by decide +kernel) rfl (k_2 hw) (r_2_2 hw) (by decide) ?_
    refine ms_iload_n (k := 1) (p' := 12) (by decide +kernel) rfl rfl ?_
    refine ms_aald (p' := 13) (by decide +kernel) rfl (k_31 hw) (rz31 hw) (fun hj2 => ?_)
    refine ms_aload_n (k := 0) (p' := 14) (by decide +kernel) rfl rfl ?_
    refine ms_getr (idx := 19) (ci := 8) (k := 1) (q := 519) (p' := 17) (by decide +kernel) rfl (k_2 hw) (r_2_1 hw) (pn_0 (pl_pn sw)) ?_
    refine ms_geti (idx := 185) (ci := 3) (k := 1) (q := 207) (p' := 20) (by decide +kernel) rfl (pn_k (pl_pn sw) hw) ?_
    refine ms_iconst (n := 1) (v := 1) (p' := 21) (by decide +kernel) rfl ?_
    refine ms_iadd (p' := 22) (by decide +kernel) rfl ?_
    refine ms_virt_u (idx := 188) (cy := yZ_layZero) (n := 1) (a := (215 + 2 * x1.toNat)) (as := [.inl (mj_w ((f (pl sw) 1) + 1))]) (rest := []) (p' := 25) (by decide +kernel) rfl rfl rfl rfl (zn_k (zz31 hj2) hw) rfl (fun f3 => ?_)
    refine ms_iinc (k := 1) (n := 1) (ls' := [.inr (.inl 2), .inl (mj_w (x1 + 1))]) (p' := 28) (by decide +kernel) rfl rfl rfl ?_
    refine ms_goto (off := (-26)) (p' := 2) (by decide +kernel) ?_
    rfl
theorem c_X_fault {sw : Bool} {w : mj_W} (hw : wk sw w) (f : mj_F) (x1 : Int)  : mj_call yX_fault w f [.inr (.inl 2), .inl x1] = if x1 = 0 then some (w, f, some (.inl (f 3 8))) else if x1 = 1 then some (w, f, some (.inl (f 3 9))) else some (w, f, some (.inl (-1))) := by
  show mj_run yX_fault w f 0 [.inr (.inl 2), .inl x1] [] = _
  refine ms_iload_n (k := 1) (p' := 1) (by decide +kernel) rfl rfl ?_
  have hd : mj_dec yX_fault 1 = some (.lookupswitch 43 #[(0, 27), (1, 35)]) := by decide +kernel
  by_cases hs0 : x1 = 0
  · rw [if_pos hs0]
    refine ms_look (t := 28) hd (by decide +kernel) (by rw [hs0]; decide +kernel) ?_
    refine ms_aload_n (k := 0) (p' := 29) (by decide +kernel) rfl rfl ?_
    refine ms_getr (idx := 12) (ci := 8) (k := 0) (q := 518) (p' := 32) (by decide +kernel) rfl (k_2 hw) (r_2_0 hw) (by decide) ?_
    refine ms_geti (idx := 101) (ci := 4) (k := 8) (q := 323) (p' := 35) (by decide +kernel) rfl (k_3 hw) ?_
    exact ms_iret (by decide +kernel)
  · rw [if_neg hs0]
    by_cases hs1 : x1 = 1
    · rw [if_pos hs1]
      refine ms_look (t := 36) hd (by decide +kernel) (by rw [hs1]; decide +kernel) ?_
      refine ms_aload_n (k := 0) (p' := 37) (by decide +kernel) rfl rfl ?_
      refine ms_getr (idx := 12) (ci := 8) (k := 0) (q := 518) (p' := 40) (by decide +kernel) rfl (k_2 hw) (r_2_0 hw) (by decide) ?_
      refine ms_geti (idx := 104) (ci := 4) (k := 9) (q := 325) (p' := 43) (by decide +kernel) rfl (k_3 hw) ?_
      exact ms_iret (by decide +kernel)
    · rw [if_neg hs1]
      refine ms_look (t := 44) hd (by decide +kernel) (by rw [show Op.lookupswitch.offset (#[(0, 27), (1, 35)] : Array (Int × Int)).toList 43 x1 = 43 by simp [Op.lookupswitch.offset, hs0, Ne.symm hs0, hs1, Ne.symm hs1]]; decide +kernel) ?_
      refine ms_iconst (n := (-1)) (v := (-1)) (p' := 45) (by decide +kernel) rfl ?_
      exact ms_iret (by decide +kernel)
theorem c_X_isPlace {sw : Bool} {w : mj_W} (hw : wk sw w) (f : mj_F) (x1 : Int)  : mj_call yX_isPlace w f [.inr (.inl 2), .inl x1] = if x1 < 0 then some (w, f, some (.inl 0)) else if (f (pl sw) 2) ≤ x1 then some (w, f, some (.inl 0)) else some (w, f, some (.inl 1)) := by
  show mj_run yX_isPlace w f 0 [.inr (.inl 2), .inl x1] [] = _
  refine ms_iload_n (k := 1) (p' := 1) (by decide +kernel) rfl rfl ?_
  refine ms_if_lt (off := 18) (t := 19) (p' := 4) (by decide +kernel) rfl (fun hc => ?_) (fun hc => ?_)
  · refine ms_iconst (n := 0) (v := 0) (p' := 20) (by decide +kernel) rfl ?_
    exact (ms_zret (by decide +kernel)).trans (mj_gd_pos (by decide) _)
  · refine ms_iload_n (k := 1) (p' := 5) (by decide +kernel) rfl rfl ?_
    refine ms_aload_n (k := 0) (p' := 6) (by decide +kernel) rfl rfl ?_
    refine ms_getr (idx := 19) (ci := 8) (k := 1) (q := 519) (p' := 9) (by decide +kernel) rfl (k_2 hw) (r_2_1 hw) (pn_0 (pl_pn sw)) ?_
    refine ms_geti (idx := 350) (ci := 3) (k := 2) (q := 210) (p' := 12) (by decide +kernel) rfl (pn_k (pl_pn sw) hw) ?_
    refine ms_icmp_ge (off := 7) (t := 19) (p' := 15) (by decide +kernel) rfl (fun hc => ?_) (fun hc => ?_)
    · refine ms_iconst (n := 0) (v := 0) (p' := 20) (by decide +kernel) rfl ?_
      exact (ms_zret (by decide +kernel)).trans (mj_gd_pos (by decide) _)
    · refine ms_iconst (n := 1) (v := 1) (p' := 16) (by decide +kernel) rfl ?_
      refine ms_goto (off := 4) (p' := 20) (by decide +kernel) ?_
      exact (ms_zret (by decide +kernel)).trans (mj_gd_pos (by decide) _)
theorem c_X_isEdge {sw : Bool} {w : mj_W} (hw : wk sw w) (f : mj_F) (x1 : Int)  : mj_call yX_isEdge w f [.inr (.inl 2), .inl x1] = if x1 < 0 then some (w, f, some (.inl 0)) else if (f (pl sw) 3) ≤ x1 then some (w, f, some (.inl 0)) else some (w, f, some (.inl 1)) := by
  show mj_run yX_isEdge w f 0 [.inr (.inl 2), .inl x1] [] = _
  refine ms_iload_n (k := 1) (p' := 1) (by decide +kernel) rfl rfl ?_
  refine ms_if_lt (off := 18) (t := 19) (p' := 4) (by decide +kernel) rfl (fun hc => ?_) (fun hc => ?_)
  · refine ms_iconst (n := 0) (v := 0) (p' := 20) (by decide +kernel) rfl ?_
    exact (ms_zret (by decide +kernel)).trans (mj_gd_pos (by decide) _)
  · refine ms_iload_n (k := 1) (p' := 5) (by decide +kernel) rfl rfl ?_
    refine ms_aload_n (k := 0) (p' := 6) (by decide +kernel) rfl rfl ?_
    refine ms_getr (idx := 19) (ci := 8) (k := 1) (q := 519) (p' := 9) (by decide +kernel) rfl (k_2 hw) (r_2_1 hw) (pn_0 (pl_pn sw)) ?_
    refine ms_geti (idx := 362) (ci := 3) (k := 3) (q := 214) (p' := 12) (by decide +kernel) rfl (pn_k (pl_pn sw) hw) ?_
    refine ms_icmp_ge (off := 7) (t := 19) (p' := 15) (by decide +kernel) rfl (fun hc => ?_) (fun hc => ?_)
    · refine ms_iconst (n := 0) (v := 0) (p' := 20) (by decide +kernel) rfl ?_
      exact (ms_zret (by decide +kernel)).trans (mj_gd_pos (by decide) _)
    · refine ms_iconst (n := 1) (v := 1) (p' := 16) (by decide +kernel) rfl ?_
      refine ms_goto (off := 4) (p' := 20) (by decide +kernel) ?_
      exact (ms_zret (by decide +kernel)).trans (mj_gd_pos (by decide) _)
theorem c_X_when {sw : Bool} {w : mj_W} (hw : wk sw w) (f : mj_F) (x1 : Int) (x2 : Int) (x3 : Int)  : mj_call yX_when w f [.inr (.inl 2), .inl x1, .inl x2, .inl x3] = mj_bi (mj_call yX_isEdge w f [.inr (.inl 2), .inl x1]) (fun f1 v2 => if v2 = 0 then some (w, f1, some (.inl (-1))) else if x2 < 0 then some (w, f1, some (.inl (-1))) else if x3 < 0 then some (w, f1, some (.inl (-1))) else if x3 ≤ 2 then mj_bi (mj_call yX_edgeRules w f1 [.inl x1]) (fun f3 v4 => mj_gd (0 ≤ v4 ∧ v4 < ((24 : Nat) : Int)) (if x2 < (f3 (pl sw + 4) v4.toNat) then if ¬ x3 = 0 then if ¬ x3 = 1 then mj_gd (0 ≤ (mj_w ((mj_w (v4 * 6)) + x2)) ∧ (mj_w ((mj_w (v4 * 6)) + x2)) < ((144 : Nat) : Int)) (some (w, f3, some (.inl (f3 (pl sw + 7) (mj_w ((mj_w (v4 * 6)) + x2)).toNat)))) else mj_gd (0 ≤ (mj_w ((mj_w (v4 * 6)) + x2)) ∧ (mj_w ((mj_w (v4 * 6)) + x2)) < ((144 : Nat) : Int)) (some (w, f3, some (.inl (f3 (pl sw + 6) (mj_w ((mj_w (v4 * 6)) + x2)).toNat)))) else mj_gd (0 ≤ (mj_w ((mj_w (v4 * 6)) + x2)) ∧ (mj_w ((mj_w (v4 * 6)) + x2)) < ((144 : Nat) : Int)) (some (w, f3, some (.inl (f3 (pl sw + 5) (mj_w ((mj_w (v4 * 6)) + x2)).toNat)))) else some (w, f3, some (.inl (-2))))) else some (w, f1, some (.inl (-1)))) := by
  show mj_run yX_when w f 0 [.inr (.inl 2), .inl x1, .inl x2, .inl x3, .inr (.inr (.inr 0)), .inr (.inr (.inr 0))] [] = _
  refine ms_aload_n (k := 0) (p' := 1) (by decide +kernel) rfl rfl ?_
  refine ms_iload_n (k := 1) (p' := 2) (by decide +kernel) rfl rfl ?_
  refine ms_virt_i (idx := 141) (cy := yX_isEdge) (n := 1) (a := 2) (as := [.inl x1]) (rest := []) (p' := 5) (by decide +kernel) rfl rfl rfl rfl (k_2 hw) rfl (fun f1 v2 => ?_)
  refine ms_if_eq (off := 16) (t := 21) (p' := 8) (by decide +kernel) rfl (fun hc => ?_) (fun hc => ?_)
  · refine ms_iconst (n := (-1)) (v := (-1)) (p' := 22) (by decide +kernel) rfl ?_
    exact ms_iret (by decide +kernel)
  · refine ms_iload_n (k := 2) (p' := 9) (by decide +kernel) rfl rfl ?_
    refine ms_if_lt (off := 12) (t := 21) (p' := 12) (by decide +kernel) rfl (fun hc => ?_) (fun hc => ?_)
    · refine ms_iconst (n := (-1)) (v := (-1)) (p' := 22) (by decide +kernel) rfl ?_
      exact ms_iret (by decide +kernel)
    · refine ms_iload_n (k := 3) (p' := 13) (by decide +kernel) rfl rfl ?_
      refine ms_if_lt (off := 8) (t := 21) (p' := 16) (by decide +kernel) rfl (fun hc => ?_) (fun hc => ?_)
      · refine ms_iconst (n := (-1)) (v := (-1)) (p' := 22) (by decide +kernel) rfl ?_
        exact ms_iret (by decide +kernel)
      · refine ms_iload_n (k := 3) (p' := 17) (by decide +kernel) rfl rfl ?_
        refine ms_iconst (n := 2) (v := 2) (p' := 18) (by decide +kernel) rfl ?_
        refine ms_icmp_le (off := 5) (t := 23) (p' := 21) (by decide +kernel) rfl (fun hc => ?_) (fun hc => ?_)
        · refine ms_iload_n (k := 1) (p' := 24) (by decide +kernel) rfl rfl ?_
          refine ms_stat_i (idx := 152) (cy := yX_edgeRules) (n := 1) (as := [.inl x1]) (rest := []) (p' := 27) (by decide +kernel) rfl rfl rfl rfl rfl (fun f3 v4 => ?_)
          refine ms_istore (k := 4) (ls' := [.inr (.inl 2), .inl x1, .inl x2, .inl x3, .inl v4, .inr (.inr (.inr 0))]) (p' := 29) (by decide +kernel) rfl (Nat.le_of_ble_eq_true rfl) rfl ?_
          refine ms_iload_n (k := 2) (p' := 30) (by decide +kernel) rfl rfl ?_
          refine ms_aload_n (k := 0) (p' := 31) (by decide +kernel) rfl rfl ?_
          refine ms_getr (idx := 19) (ci := 8) (k := 1) (q := 519) (p' := 34) (by decide +kernel) rfl (k_2 hw) (r_2_1 hw) (pn_0 (pl_pn sw)) ?_
          refine ms_getr (idx := 117) (ci := 3) (k := 9) (q := 233) (p' := 37) (by decide +kernel) rfl (pn_k (pl_pn sw) hw) (pn_r9 (pl_pn sw) hw) (by omega) ?_
          refine ms_iload (k := 4) (p' := 39) (by decide +kernel) rfl rfl ?_
          refine ms_iald (p' := 40) (by decide +kernel) rfl (pn_k9 (pl_pn sw) hw) (fun hj5 => ?_)
          refine ms_icmp_lt (off := 6) (t := 46) (p' := 43) (by decide +kernel) rfl (fun hc => ?_) (fun hc => ?_)
          · refine ms_iload (k := 4) (p' := 48) (by decide +kernel) rfl rfl ?_
            refine ms_bipush (n := 6) (v := 6) (p' := 50) (by decide +kernel) rfl ?_
            refine ms_imul (p' := 51) (by decide +kernel) rfl ?_
            refine ms_iload_n (k := 2) (p' := 52) (by decide +kernel) rfl rfl ?_
            refine ms_iadd (p' := 53) (by decide +kernel) rfl ?_
            refine ms_istore (k := 5) (ls' := [.inr (.inl 2), .inl x1, .inl x2, .inl x3, .inl v4, .inl (mj_w ((mj_w (v4 * 6)) + x2))]) (p' := 55) (by decide +kernel) rfl (Nat.le_of_ble_eq_true rfl) rfl ?_
            refine ms_iload_n (k := 3) (p' := 56) (by decide +kernel) rfl rfl ?_
            refine ms_if_ne (off := 14) (t := 70) (p' := 59) (by decide +kernel) rfl (fun hc => ?_) (fun hc => ?_)
            · refine ms_iload_n (k := 3) (p' := 71) (by decide +kernel) rfl rfl ?_
              refine ms_iconst (n := 1) (v := 1) (p' := 72) (by decide +kernel) rfl ?_
              refine ms_icmp_ne (off := 16) (t := 88) (p' := 75) (by decide +kernel) rfl (fun hc => ?_) (fun hc => ?_)
              · refine ms_aload_n (k := 0) (p' := 89) (by decide +kernel) rfl rfl ?_
                refine ms_getr (idx := 19) (ci := 8) (k := 1) (q := 519) (p' := 92) (by decide +kernel) rfl (k_2 hw) (r_2_1 hw) (pn_0 (pl_pn sw)) ?_
                refine ms_getr (idx := 167) (ci := 3) (k := 12) (q := 245) (p' := 95) (by decide +kernel) rfl (pn_k (pl_pn sw) hw) (pn_r12 (pl_pn sw) hw) (by omega) ?_
                refine ms_iload (k := 5) (p' := 97) (by decide +kernel) rfl rfl ?_
                refine ms_iald (p' := 98) (by decide +kernel) rfl (pn_k12 (pl_pn sw) hw) (fun hj6 => ?_)
                exact ms_iret (by decide +kernel)
              · refine ms_aload_n (k := 0) (p' := 76) (by decide +kernel) rfl rfl ?_
                refine ms_getr (idx := 19) (ci := 8) (k := 1) (q := 519) (p' := 79) (by decide +kernel) rfl (k_2 hw) (r_2_1 hw) (pn_0 (pl_pn sw)) ?_
                refine ms_getr (idx := 164) (ci := 3) (k := 11) (q := 241) (p' := 82) (by decide +kernel) rfl (pn_k (pl_pn sw) hw) (pn_r11 (pl_pn sw) hw) (by omega) ?_
                refine ms_iload (k := 5) (p' := 84) (by decide +kernel) rfl rfl ?_
                refine ms_iald (p' := 85) (by decide +kernel) rfl (pn_k11 (pl_pn sw) hw) (fun hj7 => ?_)
                refine ms_goto (off := 13) (p' := 98) (by decide +kernel) ?_
                exact ms_iret (by decide +kernel)
            · refine ms_aload_n (k := 0) (p' := 60) (by decide +kernel) rfl rfl ?_
              refine ms_getr (idx := 19) (ci := 8) (k := 1) (q := 519) (p' := 63) (by decide +kernel) rfl (k_2 hw) (r_2_1 hw) (pn_0 (pl_pn sw)) ?_
              refine ms_getr (idx := 161) (ci := 3) (k := 10) (q := 237) (p' := 66) (by decide +kernel) rfl (pn_k (pl_pn sw) hw) (pn_r10 (pl_pn sw) hw) (by omega) ?_
              refine ms_iload (k := 5) (p' := 68) (by decide +kernel) rfl rfl ?_
              refine ms_iald (p' := 69) (by decide +kernel) rfl (pn_k10 (pl_pn sw) hw) (fun hj8 => ?_)
              exact ms_iret (by decide +kernel)
          · refine ms_bipush (n := (-2)) (v := (-2)) (p' := 45) (by decide +kernel) rfl ?_
            exact ms_iret (by decide +kernel)
        · refine ms_iconst (n := (-1)) (v := (-1)) (p' := 22) (by decide +kernel) rfl ?_
          exact ms_iret (by decide +kernel)
theorem c_X_set {sw : Bool} {w : mj_W} (hw : wk sw w) (f : mj_F) (x1 : Int) (x2 : Int) (x3 : Int)  : mj_call yX_set w f [.inr (.inl 2), .inl x1, .inl x2, .inl x3] = mj_bi (mj_call yX_isEdge w f [.inr (.inl 2), .inl x1]) (fun f1 v2 => if v2 = 0 then some (w, f1, some (.inl (-1))) else if x2 < 0 then some (w, f1, some (.inl (-1))) else if x3 < 0 then some (w, f1, some (.inl (-1))) else if x3 ≤ 1 then mj_gd (0 ≤ x1 ∧ x1 < ((16 : Nat) : Int)) (if x2 < (f1 (pl sw + 10) x1.toNat) then if ¬ x3 = 0 then mj_gd (0 ≤ (mj_w ((mj_w (x1 * 4)) + x2)) ∧ (mj_w ((mj_w (x1 * 4)) + x2)) < ((64 : Nat) : Int)) (some (w, f1, some (.inl (f1 (pl sw + 12) (mj_w ((mj_w (x1 * 4)) + x2)).toNat)))) else mj_gd (0 ≤ (mj_w ((mj_w (x1 * 4)) + x2)) ∧ (mj_w ((mj_w (x1 * 4)) + x2)) < ((64 : Nat) : Int)) (some (w, f1, some (.inl (f1 (pl sw + 11) (mj_w ((mj_w (x1 * 4)) + x2)).toNat)))) else some (w, f1, some (.inl (-2)))) else some (w, f1, some (.inl (-1)))) := by
  show mj_run yX_set w f 0 [.inr (.inl 2), .inl x1, .inl x2, .inl x3, .inr (.inr (.inr 0))] [] = _
  refine ms_aload_n (k := 0) (p' := 1) (by decide +kernel) rfl rfl ?_
  refine ms_iload_n (k := 1) (p' := 2) (by decide +kernel) rfl rfl ?_
  refine ms_virt_i (idx := 141) (cy := yX_isEdge) (n := 1) (a := 2) (as := [.inl x1]) (rest := []) (p' := 5) (by decide +kernel) rfl rfl rfl rfl (k_2 hw) rfl (fun f1 v2 => ?_)
  refine ms_if_eq (off := 16) (t := 21) (p' := 8) (by decide +kernel) rfl (fun hc => ?_) (fun hc => ?_)
  · refine ms_iconst (n := (-1)) (v := (-1)) (p' := 22) (by decide +kernel) rfl ?_
    exact ms_iret (by decide +kernel)
  · refine ms_iload_n (k := 2) (p' := 9) (by decide +kernel) rfl rfl ?_
    refine ms_if_lt (off := 12) (t := 21) (p' := 12) (by decide +kernel) rfl (fun hc => ?_) (fun hc => ?_)
    · refine ms_iconst (n := (-1)) (v := (-1)) (p' := 22) (by decide +kernel) rfl ?_
      exact ms_iret (by decide +kernel)
    · refine ms_iload_n (k := 3) (p' := 13) (by decide +kernel) rfl rfl ?_
      refine ms_if_lt (off := 8) (t := 21) (p' := 16) (by decide +kernel) rfl (fun hc => ?_) (fun hc => ?_)
      · refine ms_iconst (n := (-1)) (v := (-1)) (p' := 22) (by decide +kernel) rfl ?_
        exact ms_iret (by decide +kernel)
      · refine ms_iload_n (k := 3) (p' := 17) (by decide +kernel) rfl rfl ?_
        refine ms_iconst (n := 1) (v := 1) (p' := 18) (by decide +kernel) rfl ?_
        refine ms_icmp_le (off := 5) (t := 23) (p' := 21) (by decide +kernel) rfl (fun hc => ?_) (fun hc => ?_)
        · refine ms_iload_n (k := 2) (p' := 24) (by decide +kernel) rfl rfl ?_
          refine ms_aload_n (k := 0) (p' := 25) (by decide +kernel) rfl rfl ?_
          refine ms_getr (idx := 19) (ci := 8) (k := 1) (q := 519) (p' := 28) (by decide +kernel) rfl (k_2 hw) (r_2_1 hw) (pn_0 (pl_pn sw)) ?_
          refine ms_getr (idx := 155) (ci := 3) (k := 15) (q := 263) (p' := 31) (by decide +kernel) rfl (pn_k (pl_pn sw) hw) (pn_r15 (pl_pn sw) hw) (by omega) ?_
          refine ms_iload_n (k := 1) (p' := 32) (by decide +kernel) rfl rfl ?_
          refine ms_iald (p' := 33) (by decide +kernel) rfl (pn_k15 (pl_pn sw) hw) (fun hj3 => ?_)
          refine ms_icmp_lt (off := 6) (t := 39) (p' := 36) (by decide +kernel) rfl (fun hc => ?_) (fun hc => ?_)
          · refine ms_iload_n (k := 1) (p' := 40) (by decide +kernel) rfl rfl ?_
            refine ms_iconst (n := 4) (v := 4) (p' := 41) (by decide +kernel) rfl ?_
            refine ms_imul (p' := 42) (by decide +kernel) rfl ?_
            refine ms_iload_n (k := 2) (p' := 43) (by decide +kernel) rfl rfl ?_
            refine ms_iadd (p' := 44) (by decide +kernel) rfl ?_
            refine ms_istore (k := 4) (ls' := [.inr (.inl 2), .inl x1, .inl x2, .inl x3, .inl (mj_w ((mj_w (x1 * 4)) + x2))]) (p' := 46) (by decide +kernel) rfl (Nat.le_of_ble_eq_true rfl) rfl ?_
            refine ms_iload_n (k := 3) (p' := 47) (by decide +kernel) rfl rfl ?_
            refine ms_if_ne (off := 16) (t := 63) (p' := 50) (by decide +kernel) rfl (fun hc => ?_) (fun hc => ?_)
            · refine ms_aload_n (k := 0) (p' := 64) (by decide +kernel) rfl rfl ?_
              refine ms_getr (idx := 19) (ci := 8) (k := 1) (q := 519) (p' := 67) (by decide +kernel) rfl (k_2 hw) (r_2_1 hw) (pn_0 (pl_pn sw)) ?_
              refine ms_getr (idx := 173) (ci := 3) (k := 17) (q := 271) (p' := 70) (by decide +kernel) rfl (pn_k (pl_pn sw) hw) (pn_r17 (pl_pn sw) hw) (by omega) ?_
              refine ms_iload (k := 4) (p' := 72) (by decide +kernel) rfl rfl ?_
              refine ms_iald (p' := 73) (by decide +kernel) rfl (pn_k17 (pl_pn sw) hw) (fun hj4 => ?_)
              exact ms_iret (by decide +kernel)
            · refine ms_aload_n (k := 0) (p' := 51) (by decide +kernel) rfl rfl ?_
              refine ms_getr (idx := 19) (ci := 8) (k := 1) (q := 519) (p' := 54) (by decide +kernel) rfl (k_2 hw) (r_2_1 hw) (pn_0 (pl_pn sw)) ?_
              refine ms_getr (idx := 170) (ci := 3) (k := 16) (q := 267) (p' := 57) (by decide +kernel) rfl (pn_k (pl_pn sw) hw) (pn_r16 (pl_pn sw) hw) (by omega) ?_
              refine ms_iload (k := 4) (p' := 59) (by decide +kernel) rfl rfl ?_
              refine ms_iald (p' := 60) (by decide +kernel) rfl (pn_k16 (pl_pn sw) hw) (fun hj5 => ?_)
              refine ms_goto (off := 13) (p' := 73) (by decide +kernel) ?_
              exact ms_iret (by decide +kernel)
          · refine ms_bipush (n := (-2)) (v := (-2)) (p' := 38) (by decide +kernel) rfl ?_
            exact ms_iret (by decide +kernel)
        · refine ms_iconst (n := (-1)) (v := (-1)) (p' := 22) (by decide +kernel) rfl ?_
          exact ms_iret (by decide +kernel)
theorem c_X_isClock {sw : Bool} {w : mj_W} (hw : wk sw w) (f : mj_F) (x1 : Int)  : mj_call yX_isClock w f [.inr (.inl 2), .inl x1] = if x1 < 0 then some (w, f, some (.inl 0)) else if (f (pl sw) 1) ≤ x1 then some (w, f, some (.inl 0)) else some (w, f, some (.inl 1)) := by
  show mj_run yX_isClock w f 0 [.inr (.inl 2), .inl x1] [] = _
  refine ms_iload_n (k := 1) (p' := 1) (by decide +kernel) rfl rfl ?_
  refine ms_if_lt (off := 18) (t := 19) (p' := 4) (by decide +kernel) rfl (fun hc => ?_) (fun hc => ?_)
  · refine ms_iconst (n := 0) (v := 0) (p' := 20) (by decide +kernel) rfl ?_
    exact (ms_zret (by decide +kernel)).trans (mj_gd_pos (by decide) _)
  · refine ms_iload_n (k := 1) (p' := 5) (by decide +kernel) rfl rfl ?_
    refine ms_aload_n (k := 0) (p' := 6) (by decide +kernel) rfl rfl ?_
    refine ms_getr (idx := 19) (ci := 8) (k := 1) (q := 519) (p' := 9) (by decide +kernel) rfl (k_2 hw) (r_2_1 hw) (pn_0 (pl_pn sw)) ?_
    refine ms_geti (idx := 185) (ci := 3) (k := 1) (q := 207) (p' := 12) (by decide +kernel) rfl (pn_k (pl_pn sw) hw) ?_
    refine ms_icmp_ge (off := 7) (t := 19) (p' := 15) (by decide +kernel) rfl (fun hc => ?_) (fun hc => ?_)
    · refine ms_iconst (n := 0) (v := 0) (p' := 20) (by decide +kernel) rfl ?_
      exact (ms_zret (by decide +kernel)).trans (mj_gd_pos (by decide) _)
    · refine ms_iconst (n := 1) (v := 1) (p' := 16) (by decide +kernel) rfl ?_
      refine ms_goto (off := 4) (p' := 20) (by decide +kernel) ?_
      exact (ms_zret (by decide +kernel)).trans (mj_gd_pos (by decide) _)
theorem c_X_great {sw : Bool} {w : mj_W} (hw : wk sw w) (f : mj_F) (x1 : Int)  : mj_call yX_great w f [.inr (.inl 2), .inl x1] = mj_bi (mj_call yX_isClock w f [.inr (.inl 2), .inl x1]) (fun f1 v2 => if v2 = 0 then some (w, f1, some (.inl (-1))) else mj_gd (0 ≤ x1 ∧ x1 < ((4 : Nat) : Int)) (some (w, f1, some (.inl (f1 (pl sw + 3) x1.toNat))))) := by
  show mj_run yX_great w f 0 [.inr (.inl 2), .inl x1] [] = _
  refine ms_aload_n (k := 0) (p' := 1) (by decide +kernel) rfl rfl ?_
  refine ms_iload_n (k := 1) (p' := 2) (by decide +kernel) rfl rfl ?_
  refine ms_virt_i (idx := 176) (cy := yX_isClock) (n := 1) (a := 2) (as := [.inl x1]) (rest := []) (p' := 5) (by decide +kernel) rfl rfl rfl rfl (k_2 hw) rfl (fun f1 v2 => ?_)
  refine ms_if_eq (off := 15) (t := 20) (p' := 8) (by decide +kernel) rfl (fun hc => ?_) (fun hc => ?_)
  · refine ms_iconst (n := (-1)) (v := (-1)) (p' := 21) (by decide +kernel) rfl ?_
    exact ms_iret (by decide +kernel)
  · refine ms_aload_n (k := 0) (p' := 9) (by decide +kernel) rfl rfl ?_
    refine ms_getr (idx := 19) (ci := 8) (k := 1) (q := 519) (p' := 12) (by decide +kernel) rfl (k_2 hw) (r_2_1 hw) (pn_0 (pl_pn sw)) ?_
    refine ms_getr (idx := 179) (ci := 3) (k := 8) (q := 229) (p' := 15) (by decide +kernel) rfl (pn_k (pl_pn sw) hw) (pn_r8 (pl_pn sw) hw) (by omega) ?_
    refine ms_iload_n (k := 1) (p' := 16) (by decide +kernel) rfl rfl ?_
    refine ms_iald (p' := 17) (by decide +kernel) rfl (pn_k8 (pl_pn sw) hw) (fun hj3 => ?_)
    refine ms_goto (off := 4) (p' := 21) (by decide +kernel) ?_
    exact ms_iret (by decide +kernel)
theorem c_X_isTable {sw : Bool} {w : mj_W} (hw : wk sw w) (f : mj_F) (x0 : Int)  : mj_call yX_isTable w f [.inl x0] = if x0 < 0 then some (w, f, some (.inl 0)) else if 4 ≤ x0 then some (w, f, some (.inl 0)) else some (w, f, some (.inl 1)) := by
  show mj_run yX_isTable w f 0 [.inl x0] [] = _
  refine ms_iload_n (k := 0) (p' := 1) (by decide +kernel) rfl rfl ?_
  refine ms_if_lt (off := 12) (t := 13) (p' := 4) (by decide +kernel) rfl (fun hc => ?_) (fun hc => ?_)
  · refine ms_iconst (n := 0) (v := 0) (p' := 14) (by decide +kernel) rfl ?_
    exact (ms_zret (by decide +kernel)).trans (mj_gd_pos (by decide) _)
  · refine ms_iload_n (k := 0) (p' := 5) (by decide +kernel) rfl rfl ?_
    refine ms_iconst (n := 4) (v := 4) (p' := 6) (by decide +kernel) rfl ?_
    refine ms_icmp_ge (off := 7) (t := 13) (p' := 9) (by decide +kernel) rfl (fun hc => ?_) (fun hc => ?_)
    · refine ms_iconst (n := 0) (v := 0) (p' := 14) (by decide +kernel) rfl ?_
      exact (ms_zret (by decide +kernel)).trans (mj_gd_pos (by decide) _)
    · refine ms_iconst (n := 1) (v := 1) (p' := 10) (by decide +kernel) rfl ?_
      refine ms_goto (off := 4) (p' := 14) (by decide +kernel) ?_
      exact (ms_zret (by decide +kernel)).trans (mj_gd_pos (by decide) _)
theorem c_X_settle {sw : Bool} {w : mj_W} (hw : wk sw w) (f : mj_F) (x1 : Int)  : mj_call yX_settle w f [.inr (.inl 2), .inl x1] = mj_bi (mj_call yZ_goesBeyond w f [.inr (.inl 32), .inl 400]) (fun f1 v2 => if v2 = 0 then mj_gd (0 ≤ x1 ∧ x1 < ((4 : Nat) : Int)) (mj_bu (mj_call yH_keepTable w f1 [.inr (.inl 178), .inl x1, .inr (.inl (215 + 2 * x1.toNat))]) (fun f4 => mj_gd (0 ≤ x1 ∧ x1 < ((4 : Nat) : Int)) (mj_bu (mj_call yZ_become w f4 [.inr (.inl (215 + 2 * x1.toNat)), .inr (.inl 32)]) (fun f6 => if (f6 32 2) = 0 then some (w, f6, some (.inl 1)) else some (w, f6, some (.inl 0)))))) else some (w, f1, some (.inl (-2)))) := by
  show mj_run yX_settle w f 0 [.inr (.inl 2), .inl x1] [] = _
  refine ms_aload_n (k := 0) (p' := 1) (by decide +kernel) rfl rfl ?_
  refine ms_getr (idx := 30) (ci := 8) (k := 3) (q := 521) (p' := 4) (by decide +kernel) rfl (k_2 hw) (r_2_3 hw) (by decide) ?_
  refine ms_sipush (n := 400) (v := 400) (p' := 7) (by decide +kernel) rfl ?_
  refine ms_virt_i (idx := 424) (cy := yZ_goesBeyond) (n := 1) (a := 32) (as := [.inl 400]) (rest := []) (p' := 10) (by decide +kernel) rfl rfl rfl rfl (zn_k zn32 hw) rfl (fun f1 v2 => ?_)
  refine ms_if_eq (off := 6) (t := 16) (p' := 13) (by decide +kernel) rfl (fun hc => ?_) (fun hc => ?_)
  · refine ms_aload_n (k := 0) (p' := 17) (by decide +kernel) rfl rfl ?_
    refine ms_getr (idx := 72) (ci := 8) (k := 10) (q := 528) (p' := 20) (by decide +kernel) rfl (k_2 hw) (r_2_10 hw) (by decide) ?_
    refine ms_iload_n (k := 1) (p' := 21) (by decide +kernel) rfl rfl ?_
    refine ms_aload_n (k := 0) (p' := 22) (by decide +kernel) rfl rfl ?_
    refine ms_getr (idx := 25) (ci := 8) (k := 2) (q := 520) (p' := 25) (by decide +kernel) rfl (k_2 hw) (r_2_2 hw) (by decide) ?_
    refine ms_iload_n (k := 1) (p' := 26) (by decide +kernel) rfl rfl ?_
    refine ms_aald (p' := 27) (by decide +kernel) rfl (k_31 hw) (rz31 hw) (fun hj3 => ?_)
    refine ms_virt_u (idx := 427) (cy := yH_keepTable) (n := 2) (a := 178) (as := [.inl x1, .inr (.inl (215 + 2 * x1.toNat))]) (rest := []) (p' := 30) (by decide +kernel) rfl rfl rfl rfl (k_178 hw) rfl (fun f4 => ?_)
    refine ms_aload_n (k := 0) (p' := 31) (by decide +kernel) rfl rfl ?_
    refine ms_getr (idx := 25) (ci := 8) (k := 2) (q := 520) (p' := 34) (by decide +kernel) rfl (k_2 hw) (r_2_2 hw) (by decide) ?_
    refine ms_iload_n (k := 1) (p' := 35) (by decide +kernel) rfl rfl ?_
    refine ms_aald (p' := 36) (by decide +kernel) rfl (k_31 hw) (rz31 hw) (fun hj5 => ?_)
    refine ms_aload_n (k := 0) (p' := 37) (by decide +kernel) rfl rfl ?_
    refine ms_getr (idx := 30) (ci := 8) (k := 3) (q := 521) (p' := 40) (by decide +kernel) rfl (k_2 hw) (r_2_3 hw) (by decide) ?_
    refine ms_virt_u (idx := 204) (cy := yZ_become) (n := 1) (a := (215 + 2 * x1.toNat)) (as := [.inr (.inl 32)]) (rest := []) (p' := 43) (by decide +kernel) rfl rfl rfl rfl (zn_k (zz31 hj5) hw) rfl (fun f6 => ?_)
    refine ms_aload_n (k := 0) (p' := 44) (by decide +kernel) rfl rfl ?_
    refine ms_getr (idx := 30) (ci := 8) (k := 3) (q := 521) (p' := 47) (by decide +kernel) rfl (k_2 hw) (r_2_3 hw) (by decide) ?_
    refine ms_geti (idx := 273) (ci := 7) (k := 2) (q := 365) (p' := 50) (by decide +kernel) rfl (zn_k zn32 hw) ?_
    refine ms_if_eq (off := 7) (t := 57) (p' := 53) (by decide +kernel) rfl (fun hc => ?_) (fun hc => ?_)
    · refine ms_iconst (n := 1) (v := 1) (p' := 58) (by decide +kernel) rfl ?_
      exact ms_iret (by decide +kernel)
    · refine ms_iconst (n := 0) (v := 0) (p' := 54) (by decide +kernel) rfl ?_
      refine ms_goto (off := 4) (p' := 58) (by decide +kernel) ?_
      exact ms_iret (by decide +kernel)
  · refine ms_bipush (n := (-2)) (v := (-2)) (p' := 15) (by decide +kernel) rfl ?_
    exact ms_iret (by decide +kernel)
theorem c_X_lay {sw : Bool} {w : mj_W} (hw : wk sw w) (f : mj_F) (x1 : Int) (x2 : Int)  : mj_call yX_lay w f [.inr (.inl 2), .inl x1, .inl x2] = mj_bi (mj_call yX_isTable w f [.inl x1]) (fun f1 v2 => if v2 = 0 then some (w, f1, some (.inl 0)) else if x2 < 0 then some (w, f1, some (.inl 0)) else if x2 ≤ 2 then if ¬ x2 = 0 then if ¬ x2 = 1 then mj_bu (mj_call yZ_layNothing w f1 [.inr (.inl 32), .inl (mj_w ((f1 (pl sw) 1) + 1))]) (fun f3 => mj_bi (mj_call yX_settle w f3 [.inr (.inl 2), .inl x1]) (fun f4 v5 => some (w, f4, some (.inl 1)))) else mj_bu (mj_call yZ_layAll w f1 [.inr (.inl 32), .inl (mj_w ((f1 (pl sw) 1) + 1))]) (fun f6 => mj_bi (mj_call yX_settle w f6 [.inr (.inl 2), .inl x1]) (fun f7 v8 => some (w, f7, some (.inl 1)))) else mj_bu (mj_call yZ_layZero w f1 [.inr (.inl 32), .inl (mj_w ((f1 (pl sw) 1) + 1))]) (fun f9 => mj_bi (mj_call yX_settle w f9 [.inr (.inl 2), .inl x1]) (fun f10 v11 => some (w, f10, some (.inl 1)))) else some (w, f1, some (.inl 0))) := by
  show mj_run yX_lay w f 0 [.inr (.inl 2), .inl x1, .inl x2, .inr (.inr (.inr 0))] [] = _
  refine ms_iload_n (k := 1) (p' := 1) (by decide +kernel) rfl rfl ?_
  refine ms_stat_i (idx := 182) (cy := yX_isTable) (n := 1) (as := [.inl x1]) (rest := []) (p' := 4) (by decide +kernel) rfl rfl rfl rfl rfl (fun f1 v2 => ?_)
  refine ms_if_eq (off := 12) (t := 16) (p' := 7) (by decide +kernel) rfl (fun hc => ?_) (fun hc => ?_)
  · refine ms_iconst (n := 0) (v := 0) (p' := 17) (by decide +kernel) rfl ?_
    exact (ms_zret (by decide +kernel)).trans (mj_gd_pos (by decide) _)
  · refine ms_iload_n (k := 2) (p' := 8) (by decide +kernel) rfl rfl ?_
    refine ms_if_lt (off := 8) (t := 16) (p' := 11) (by decide +kernel) rfl (fun hc => ?_) (fun hc => ?_)
    · refine ms_iconst (n := 0) (v := 0) (p' := 17) (by decide +kernel) rfl ?_
      exact (ms_zret (by decide +kernel)).trans (mj_gd_pos (by decide) _)
    · refine ms_iload_n (k := 2) (p' := 12) (by decide +kernel) rfl rfl ?_
      refine ms_iconst (n := 2) (v := 2) (p' := 13) (by decide +kernel) rfl ?_
      refine ms_icmp_le (off := 5) (t := 18) (p' := 16) (by decide +kernel) rfl (fun hc => ?_) (fun hc => ?_)
      · refine ms_aload_n (k := 0) (p' := 19) (by decide +kernel) rfl rfl ?_
        refine ms_getr (idx := 19) (ci := 8) (k := 1) (q := 519) (p' := 22) (by decide +kernel) rfl (k_2 hw) (r_2_1 hw) (pn_0 (pl_pn sw)) ?_
        refine ms_geti (idx := 185) (ci := 3) (k := 1) (q := 207) (p' := 25) (by decide +kernel) rfl (pn_k (pl_pn sw) hw) ?_
        refine ms_iconst (n := 1) (v := 1) (p' := 26) (by decide +kernel) rfl ?_
        refine ms_iadd (p' := 27) (by decide +kernel) rfl ?_
        refine ms_istore_n (k := 3) (ls' := [.inr (.inl 2), .inl x1, .inl x2, .inl (mj_w ((f1 (pl sw) 1) + 1))]) (p' := 28) (by decide +kernel) rfl (Nat.le_of_ble_eq_true rfl) rfl ?_
        refine ms_iload_n (k := 2) (p' := 29) (by decide +kernel) rfl rfl ?_
        refine ms_if_ne (off := 14) (t := 43) (p' := 32) (by decide +kernel) rfl (fun hc => ?_) (fun hc => ?_)
        · refine ms_iload_n (k := 2) (p' := 44) (by decide +kernel) rfl rfl ?_
          refine ms_iconst (n := 1) (v := 1) (p' := 45) (by decide +kernel) rfl ?_
          refine ms_icmp_ne (off := 14) (t := 59) (p' := 48) (by decide +kernel) rfl (fun hc => ?_) (fun hc => ?_)
          · refine ms_aload_n (k := 0) (p' := 60) (by decide +kernel) rfl rfl ?_
            refine ms_getr (idx := 30) (ci := 8) (k := 3) (q := 521) (p' := 63) (by decide +kernel) rfl (k_2 hw) (r_2_3 hw) (by decide) ?_
            refine ms_iload_n (k := 3) (p' := 64) (by decide +kernel) rfl rfl ?_
            refine ms_virt_u (idx := 194) (cy := yZ_layNothing) (n := 1) (a := 32) (as := [.inl (mj_w ((f1 (pl sw) 1) + 1))]) (rest := []) (p' := 67) (by decide +kernel) rfl rfl rfl rfl (zn_k zn32 hw) rfl (fun f3 => ?_)
            refine ms_aload_n (k := 0) (p' := 68) (by decide +kernel) rfl rfl ?_
            refine ms_iload_n (k := 1) (p' := 69) (by decide +kernel) rfl rfl ?_
            refine ms_virt_i (idx := 197) (cy := yX_settle) (n := 1) (a := 2) (as := [.inl x1]) (rest := []) (p' := 72) (by decide +kernel) rfl rfl rfl rfl (k_2 hw) rfl (fun f4 v5 => ?_)
            refine ms_pop_i (p' := 73) (by decide +kernel) rfl ?_
            refine ms_iconst (n := 1) (v := 1) (p' := 74) (by decide +kernel) rfl ?_
            exact (ms_zret (by decide +kernel)).trans (mj_gd_pos (by decide) _)
          · refine ms_aload_n (k := 0) (p' := 49) (by decide +kernel) rfl rfl ?_
            refine ms_getr (idx := 30) (ci := 8) (k := 3) (q := 521) (p' := 52) (by decide +kernel) rfl (k_2 hw) (r_2_3 hw) (by decide) ?_
            refine ms_iload_n (k := 3) (p' := 53) (by decide +kernel) rfl rfl ?_
            refine ms_virt_u (idx := 191) (cy := yZ_layAll) (n := 1) (a := 32) (as := [.inl (mj_w ((f1 (pl sw) 1) + 1))]) (rest := []) (p' := 56) (by decide +kernel) rfl rfl rfl rfl (zn_k zn32 hw) rfl (fun f6 => ?_)
            refine ms_goto (off := 11) (p' := 67) (by decide +kernel) ?_
            refine ms_aload_n (k := 0) (p' := 68) (by decide +kernel) rfl rfl ?_
            refine ms_iload_n (k := 1) (p' := 69) (by decide +kernel) rfl rfl ?_
            refine ms_virt_i (idx := 197) (cy := yX_settle) (n := 1) (a := 2) (as := [.inl x1]) (rest := []) (p' := 72) (by decide +kernel) rfl rfl rfl rfl (k_2 hw) rfl (fun f7 v8 => ?_)
            refine ms_pop_i (p' := 73) (by decide +kernel) rfl ?_
            refine ms_iconst (n := 1) (v := 1) (p' := 74) (by decide +kernel) rfl ?_
            exact (ms_zret (by decide +kernel)).trans (mj_gd_pos (by decide) _)
        · refine ms_aload_n (k := 0) (p' := 33) (by decide +kernel) rfl rfl ?_
          refine ms_getr (idx := 30) (ci := 8) (k := 3) (q := 521) (p' := 36) (by decide +kernel) rfl (k_2 hw) (r_2_3 hw) (by decide) ?_
          refine ms_iload_n (k := 3) (p' := 37) (by decide +kernel) rfl rfl ?_
          refine ms_virt_u (idx := 188) (cy := yZ_layZero) (n := 1) (a := 32) (as := [.inl (mj_w ((f1 (pl sw) 1) + 1))]) (rest := []) (p' := 40) (by decide +kernel) rfl rfl rfl rfl (zn_k zn32 hw) rfl (fun f9 => ?_)
          refine ms_goto (off := 27) (p' := 67) (by decide +kernel) ?_
          refine ms_aload_n (k := 0) (p' := 68) (by decide +kernel) rfl rfl ?_
          refine ms_iload_n (k := 1) (p' := 69) (by decide +kernel) rfl rfl ?_
          refine ms_virt_i (idx := 197) (cy := yX_settle) (n := 1) (a := 2) (as := [.inl x1]) (rest := []) (p' := 72) (by decide +kernel) rfl rfl rfl rfl (k_2 hw) rfl (fun f10 v11 => ?_)
          refine ms_pop_i (p' := 73) (by decide +kernel) rfl ?_
          refine ms_iconst (n := 1) (v := 1) (p' := 74) (by decide +kernel) rfl ?_
          exact (ms_zret (by decide +kernel)).trans (mj_gd_pos (by decide) _)
      · refine ms_iconst (n := 0) (v := 0) (p' := 17) (by decide +kernel) rfl ?_
        exact (ms_zret (by decide +kernel)).trans (mj_gd_pos (by decide) _)
theorem c_X_isPair {sw : Bool} {w : mj_W} (hw : wk sw w) (f : mj_F) (x1 : Int) (x2 : Int)  : mj_call yX_isPair w f [.inr (.inl 2), .inl x1, .inl x2] = if x1 = x2 then some (w, f, some (.inl 0)) else if x1 = (-1) then if x2 = (-1) then some (w, f, some (.inl 1)) else mj_bi (mj_call yX_isClock w f [.inr (.inl 2), .inl x2]) (fun f1 v2 => if v2 = 0 then some (w, f1, some (.inl 0)) else some (w, f1, some (.inl 1))) else mj_bi (mj_call yX_isClock w f [.inr (.inl 2), .inl x1]) (fun f3 v4 => if v4 = 0 then some (w, f3, some (.inl 0)) else if x2 = (-1) then some (w, f3, some (.inl 1)) else mj_bi (mj_call yX_isClock w f3 [.inr (.inl 2), .inl x2]) (fun f5 v6 => if v6 = 0 then some (w, f5, some (.inl 0)) else some (w, f5, some (.inl 1)))) := by
  show mj_run yX_isPair w f 0 [.inr (.inl 2), .inl x1, .inl x2] [] = _
  refine ms_iload_n (k := 1) (p' := 1) (by decide +kernel) rfl rfl ?_
  refine ms_iload_n (k := 2) (p' := 2) (by decide +kernel) rfl rfl ?_
  refine ms_icmp_eq (off := 33) (t := 35) (p' := 5) (by decide +kernel) rfl (fun hc => ?_) (fun hc => ?_)
  · refine ms_iconst (n := 0) (v := 0) (p' := 36) (by decide +kernel) rfl ?_
    exact (ms_zret (by decide +kernel)).trans (mj_gd_pos (by decide) _)
  · refine ms_iload_n (k := 1) (p' := 6) (by decide +kernel) rfl rfl ?_
    refine ms_iconst (n := (-1)) (v := (-1)) (p' := 7) (by decide +kernel) rfl ?_
    refine ms_icmp_eq (off := 11) (t := 18) (p' := 10) (by decide +kernel) rfl (fun hc => ?_) (fun hc => ?_)
    · refine ms_iload_n (k := 2) (p' := 19) (by decide +kernel) rfl rfl ?_
      refine ms_iconst (n := (-1)) (v := (-1)) (p' := 20) (by decide +kernel) rfl ?_
      refine ms_icmp_eq (off := 11) (t := 31) (p' := 23) (by decide +kernel) rfl (fun hc => ?_) (fun hc => ?_)
      · refine ms_iconst (n := 1) (v := 1) (p' := 32) (by decide +kernel) rfl ?_
        refine ms_goto (off := 4) (p' := 36) (by decide +kernel) ?_
        exact (ms_zret (by decide +kernel)).trans (mj_gd_pos (by decide) _)
      · refine ms_aload_n (k := 0) (p' := 24) (by decide +kernel) rfl rfl ?_
        refine ms_iload_n (k := 2) (p' := 25) (by decide +kernel) rfl rfl ?_
        refine ms_virt_i (idx := 176) (cy := yX_isClock) (n := 1) (a := 2) (as := [.inl x2]) (rest := []) (p' := 28) (by decide +kernel) rfl rfl rfl rfl (k_2 hw) rfl (fun f1 v2 => ?_)
        refine ms_if_eq (off := 7) (t := 35) (p' := 31) (by decide +kernel) rfl (fun hc => ?_) (fun hc => ?_)
        · refine ms_iconst (n := 0) (v := 0) (p' := 36) (by decide +kernel) rfl ?_
          exact (ms_zret (by decide +kernel)).trans (mj_gd_pos (by decide) _)
        · refine ms_iconst (n := 1) (v := 1) (p' := 32) (by decide +kernel) rfl ?_
          refine ms_goto (off := 4) (p' := 36) (by decide +kernel) ?_
          exact (ms_zret (by decide +kernel)).trans (mj_gd_pos (by decide) _)
    · refine ms_aload_n (k := 0) (p' := 11) (by decide +kernel) rfl rfl ?_
      refine ms_iload_n (k := 1) (p' := 12) (by decide +kernel) rfl rfl ?_
      refine ms_virt_i (idx := 176) (cy := yX_isClock) (n := 1) (a := 2) (as := [.inl x1]) (rest := []) (p' := 15) (by decide +kernel) rfl rfl rfl rfl (k_2 hw) rfl (fun f3 v4 => ?_)
      refine ms_if_eq (off := 20) (t := 35) (p' := 18) (by decide +kernel) rfl (fun hc => ?_) (fun hc => ?_)
      · refine ms_iconst (n := 0) (v := 0) (p' := 36) (by decide +kernel) rfl ?_
        exact (ms_zret (by decide +kernel)).trans (mj_gd_pos (by decide) _)
      · refine ms_iload_n (k := 2) (p' := 19) (by decide +kernel) rfl rfl ?_
        refine ms_iconst (n := (-1)) (v := (-1)) (p' := 20) (by decide +kernel) rfl ?_
        refine ms_icmp_eq (off := 11) (t := 31) (p' := 23) (by decide +kernel) rfl (fun hc => ?_) (fun hc => ?_)
        · refine ms_iconst (n := 1) (v := 1) (p' := 32) (by decide +kernel) rfl ?_
          refine ms_goto (off := 4) (p' := 36) (by decide +kernel) ?_
          exact (ms_zret (by decide +kernel)).trans (mj_gd_pos (by decide) _)
        · refine ms_aload_n (k := 0) (p' := 24) (by decide +kernel) rfl rfl ?_
          refine ms_iload_n (k := 2) (p' := 25) (by decide +kernel) rfl rfl ?_
          refine ms_virt_i (idx := 176) (cy := yX_isClock) (n := 1) (a := 2) (as := [.inl x2]) (rest := []) (p' := 28) (by decide +kernel) rfl rfl rfl rfl (k_2 hw) rfl (fun f5 v6 => ?_)
          refine ms_if_eq (off := 7) (t := 35) (p' := 31) (by decide +kernel) rfl (fun hc => ?_) (fun hc => ?_)
          · refine ms_iconst (n := 0) (v := 0) (p' := 36) (by decide +kernel) rfl ?_
            exact (ms_zret (by decide +kernel)).trans (mj_gd_pos (by decide) _)
          · refine ms_iconst (n := 1) (v := 1) (p' := 32) (by decide +kernel) rfl ?_
            refine ms_goto (off := 4) (p' := 36) (by decide +kernel) ?_
            exact (ms_zret (by decide +kernel)).trans (mj_gd_pos (by decide) _)
theorem c_X_meet {sw : Bool} {w : mj_W} (hw : wk sw w) (f : mj_F) (x1 : Int) (x2 : Int) (x3 : Int) (x4 : Int) (x5 : Int)  : mj_call yX_meet w f [.inr (.inl 2), .inl x1, .inl x2, .inl x3, .inl x4, .inl x5] = mj_bi (mj_call yX_isTable w f [.inl x1]) (fun f1 v2 => if v2 = 0 then some (w, f1, some (.inl (-1))) else mj_bi (mj_call yX_isPair w f1 [.inr (.inl 2), .inl x2, .inl x3]) (fun f3 v4 => if v4 = 0 then some (w, f3, some (.inl (-1))) else if x4 < 0 then some (w, f3, some (.inl (-1))) else if x4 ≤ 4 then if x5 < (-100) then some (w, f3, some (.inl (-1))) else if x5 ≤ 100 then mj_gd (0 ≤ x1 ∧ x1 < ((4 : Nat) : Int)) (mj_bu (mj_call yZ_become w f3 [.inr (.inl 32), .inr (.inl (215 + 2 * x1.toNat))]) (fun f6 => mj_bu (mj_call yZ_relate w f6 [.inr (.inl 32), .inl (mj_w (x2 + 1)), .inl (mj_w (x3 + 1)), .inl x4, .inl x5]) (fun f7 => mj_bi (mj_call yX_settle w f7 [.inr (.inl 2), .inl x1]) (fun f8 v9 => some (w, f8, some (.inl v9)))))) else some (w, f3, some (.inl (-1))) else some (w, f3, some (.inl (-1))))) := by
  show mj_run yX_meet w f 0 [.inr (.inl 2), .inl x1, .inl x2, .inl x3, .inl x4, .inl x5] [] = _
  refine ms_iload_n (k := 1) (p' := 1) (by decide +kernel) rfl rfl ?_
  refine ms_stat_i (idx := 182) (cy := yX_isTable) (n := 1) (as := [.inl x1]) (rest := []) (p' := 4) (by decide +kernel) rfl rfl rfl rfl rfl (fun f1 v2 => ?_)
  refine ms_if_eq (off := 23) (t := 27) (p' := 7) (by decide +kernel) rfl (fun hc => ?_) (fun hc => ?_)
  · refine ms_iconst (n := (-1)) (v := (-1)) (p' := 28) (by decide +kernel) rfl ?_
    exact ms_iret (by decide +kernel)
  · refine ms_aload_n (k := 0) (p' := 8) (by decide +kernel) rfl rfl ?_
    refine ms_iload_n (k := 2) (p' := 9) (by decide +kernel) rfl rfl ?_
    refine ms_iload_n (k := 3) (p' := 10) (by decide +kernel) rfl rfl ?_
    refine ms_virt_i (idx := 200) (cy := yX_isPair) (n := 2) (a := 2) (as := [.inl x2, .inl x3]) (rest := []) (p' := 13) (by decide +kernel) rfl rfl rfl rfl (k_2 hw) rfl (fun f3 v4 => ?_)
    refine ms_if_eq (off := 14) (t := 27) (p' := 16) (by decide +kernel) rfl (fun hc => ?_) (fun hc => ?_)
    · refine ms_iconst (n := (-1)) (v := (-1)) (p' := 28) (by decide +kernel) rfl ?_
      exact ms_iret (by decide +kernel)
    · refine ms_iload (k := 4) (p' := 18) (by decide +kernel) rfl rfl ?_
      refine ms_if_lt (off := 9) (t := 27) (p' := 21) (by decide +kernel) rfl (fun hc => ?_) (fun hc => ?_)
      · refine ms_iconst (n := (-1)) (v := (-1)) (p' := 28) (by decide +kernel) rfl ?_
        exact ms_iret (by decide +kernel)
      · refine ms_iload (k := 4) (p' := 23) (by decide +kernel) rfl rfl ?_
        refine ms_iconst (n := 4) (v := 4) (p' := 24) (by decide +kernel) rfl ?_
        refine ms_icmp_le (off := 5) (t := 29) (p' := 27) (by decide +kernel) rfl (fun hc => ?_) (fun hc => ?_)
        · refine ms_iload (k := 5) (p' := 31) (by decide +kernel) rfl rfl ?_
          refine ms_bipush (n := (-100)) (v := (-100)) (p' := 33) (by decide +kernel) rfl ?_
          refine ms_icmp_lt (off := 10) (t := 43) (p' := 36) (by decide +kernel) rfl (fun hc => ?_) (fun hc => ?_)
          · refine ms_iconst (n := (-1)) (v := (-1)) (p' := 44) (by decide +kernel) rfl ?_
            exact ms_iret (by decide +kernel)
          · refine ms_iload (k := 5) (p' := 38) (by decide +kernel) rfl rfl ?_
            refine ms_bipush (n := 100) (v := 100) (p' := 40) (by decide +kernel) rfl ?_
            refine ms_icmp_le (off := 5) (t := 45) (p' := 43) (by decide +kernel) rfl (fun hc => ?_) (fun hc => ?_)
            · refine ms_aload_n (k := 0) (p' := 46) (by decide +kernel) rfl rfl ?_
              refine ms_getr (idx := 30) (ci := 8) (k := 3) (q := 521) (p' := 49) (by decide +kernel) rfl (k_2 hw) (r_2_3 hw) (by decide) ?_
              refine ms_aload_n (k := 0) (p' := 50) (by decide +kernel) rfl rfl ?_
              refine ms_getr (idx := 25) (ci := 8) (k := 2) (q := 520) (p' := 53) (by decide +kernel) rfl (k_2 hw) (r_2_2 hw) (by decide) ?_
              refine ms_iload_n (k := 1) (p' := 54) (by decide +kernel) rfl rfl ?_
              refine ms_aald (p' := 55) (by decide +kernel) rfl (k_31 hw) (rz31 hw) (fun hj5 => ?_)
              refine ms_virt_u (idx := 204) (cy := yZ_become) (n := 1) (a := 32) (as := [.inr (.inl (215 + 2 * x1.toNat))]) (rest := []) (p' := 58) (by decide +kernel) rfl rfl rfl rfl (zn_k zn32 hw) rfl (fun f6 => ?_)
              refine ms_aload_n (k := 0) (p' := 59) (by decide +kernel) rfl rfl ?_
              refine ms_getr (idx := 30) (ci := 8) (k := 3) (q := 521) (p' := 62) (by decide +kernel) rfl (k_2 hw) (r_2_3 hw) (by decide) ?_
              refine ms_iload_n (k := 2) (p' := 63) (by decide +kernel) rfl rfl ?_
              refine ms_iconst (n := 1) (v := 1) (p' := 64) (by decide +kernel) rfl ?_
              refine ms_iadd (p' := 65) (by decide +kernel) rfl ?_
              refine ms_iload_n (k := 3) (p' := 66) (by decide +kernel) rfl rfl ?_
              refine ms_iconst (n := 1) (v := 1) (p' := 67) (by decide +kernel) rfl ?_
              refine ms_iadd (p' := 68) (by decide +kernel) rfl ?_
              refine ms_iload (k := 4) (p' := 70) (by decide +kernel) rfl rfl ?_
              refine ms_iload (k := 5) (p' := 72) (by decide +kernel) rfl rfl ?_
              refine ms_virt_u (idx := 208) (cy := yZ_relate) (n := 4) (a := 32) (as := [.inl (mj_w (x2 + 1)), .inl (mj_w (x3 + 1)), .inl x4, .inl x5]) (rest := []) (p' := 75) (by decide +kernel) rfl rfl rfl rfl (zn_k zn32 hw) rfl (fun f7 => ?_)
              refine ms_aload_n (k := 0) (p' := 76) (by decide +kernel) rfl rfl ?_
              refine ms_iload_n (k := 1) (p' := 77) (by decide +kernel) rfl rfl ?_
              refine ms_virt_i (idx := 197) (cy := yX_settle) (n := 1) (a := 2) (as := [.inl x1]) (rest := []) (p' := 80) (by decide +kernel) rfl rfl rfl rfl (k_2 hw) rfl (fun f8 v9 => ?_)
              exact ms_iret (by decide +kernel)
            · refine ms_iconst (n := (-1)) (v := (-1)) (p' := 44) (by decide +kernel) rfl ?_
              exact ms_iret (by decide +kernel)
        · refine ms_iconst (n := (-1)) (v := (-1)) (p' := 28) (by decide +kernel) rfl ?_
          exact ms_iret (by decide +kernel)
theorem c_X_pass {sw : Bool} {w : mj_W} (hw : wk sw w) (f : mj_F) (x1 : Int) (x2 : Int)  : mj_call yX_pass w f [.inr (.inl 2), .inl x1, .inl x2] = mj_bi (mj_call yX_isTable w f [.inl x1]) (fun f1 v2 => if v2 = 0 then some (w, f1, some (.inl (-1))) else if x2 < 0 then some (w, f1, some (.inl (-1))) else if x2 ≤ 1 then mj_gd (0 ≤ x1 ∧ x1 < ((4 : Nat) : Int)) (mj_bu (mj_call yZ_become w f1 [.inr (.inl 32), .inr (.inl (215 + 2 * x1.toNat))]) (fun f4 => if ¬ x2 = 0 then mj_bu (mj_call yZ_goDown w f4 [.inr (.inl 32)]) (fun f5 => mj_bi (mj_call yX_settle w f5 [.inr (.inl 2), .inl x1]) (fun f6 v7 => some (w, f6, some (.inl v7)))) else mj_bu (mj_call yZ_goUp w f4 [.inr (.inl 32)]) (fun f8 => mj_bi (mj_call yX_settle w f8 [.inr (.inl 2), .inl x1]) (fun f9 v10 => some (w, f9, some (.inl v10)))))) else some (w, f1, some (.inl (-1)))) := by
  show mj_run yX_pass w f 0 [.inr (.inl 2), .inl x1, .inl x2] [] = _
  refine ms_iload_n (k := 1) (p' := 1) (by decide +kernel) rfl rfl ?_
  refine ms_stat_i (idx := 182) (cy := yX_isTable) (n := 1) (as := [.inl x1]) (rest := []) (p' := 4) (by decide +kernel) rfl rfl rfl rfl rfl (fun f1 v2 => ?_)
  refine ms_if_eq (off := 12) (t := 16) (p' := 7) (by decide +kernel) rfl (fun hc => ?_) (fun hc => ?_)
  · refine ms_iconst (n := (-1)) (v := (-1)) (p' := 17) (by decide +kernel) rfl ?_
    exact ms_iret (by decide +kernel)
  · refine ms_iload_n (k := 2) (p' := 8) (by decide +kernel) rfl rfl ?_
    refine ms_if_lt (off := 8) (t := 16) (p' := 11) (by decide +kernel) rfl (fun hc => ?_) (fun hc => ?_)
    · refine ms_iconst (n := (-1)) (v := (-1)) (p' := 17) (by decide +kernel) rfl ?_
      exact ms_iret (by decide +kernel)
    · refine ms_iload_n (k := 2) (p' := 12) (by decide +kernel) rfl rfl ?_
      refine ms_iconst (n := 1) (v := 1) (p' := 13) (by decide +kernel) rfl ?_
      refine ms_icmp_le (off := 5) (t := 18) (p' := 16) (by decide +kernel) rfl (fun hc => ?_) (fun hc => ?_)
      · refine ms_aload_n (k := 0) (p' := 19) (by decide +kernel) rfl rfl ?_
        refine ms_getr (idx := 30) (ci := 8) (k := 3) (q := 521) (p' := 22) (by decide +kernel) rfl (k_2 hw) (r_2_3 hw) (by decide) ?_
        refine ms_aload_n (k := 0) (p' := 23) (by decide +kernel) rfl rfl ?_
        refine ms_getr (idx := 25) (ci := 8) (k := 2) (q := 520) (p' := 26) (by decide +kernel) rfl (k_2 hw) (r_2_2 hw) (by decide) ?_
        refine ms_iload_n (k := 1) (p' := 27) (by decide +kernel) rfl rfl ?_
        refine ms_aald (p' := 28) (by decide +kernel) rfl (k_31 hw) (rz31 hw) (fun hj3 => ?_)
        refine ms_virt_u (idx := 204) (cy := yZ_become) (n := 1) (a := 32) (as := [.inr (.inl (215 + 2 * x1.toNat))]) (rest := []) (p' := 31) (by decide +kernel) rfl rfl rfl rfl (zn_k zn32 hw) rfl (fun f4 => ?_)
        refine ms_iload_n (k := 2) (p' := 32) (by decide +kernel) rfl rfl ?_
        refine ms_if_ne (off := 13) (t := 45) (p' := 35) (by decide +kernel) rfl (fun hc => ?_) (fun hc => ?_)
        · refine ms_aload_n (k := 0) (p' := 46) (by decide +kernel) rfl rfl ?_
          refine ms_getr (idx := 30) (ci := 8) (k := 3) (q := 521) (p' := 49) (by decide +kernel) rfl (k_2 hw) (r_2_3 hw) (by decide) ?_
          refine ms_virt_u (idx := 215) (cy := yZ_goDown) (n := 0) (a := 32) (as := []) (rest := []) (p' := 52) (by decide +kernel) rfl rfl rfl rfl (zn_k zn32 hw) rfl (fun f5 => ?_)
          refine ms_aload_n (k := 0) (p' := 53) (by decide +kernel) rfl rfl ?_
          refine ms_iload_n (k := 1) (p' := 54) (by decide +kernel) rfl rfl ?_
          refine ms_virt_i (idx := 197) (cy := yX_settle) (n := 1) (a := 2) (as := [.inl x1]) (rest := []) (p' := 57) (by decide +kernel) rfl rfl rfl rfl (k_2 hw) rfl (fun f6 v7 => ?_)
          exact ms_iret (by decide +kernel)
        · refine ms_aload_n (k := 0) (p' := 36) (by decide +kernel) rfl rfl ?_
          refine ms_getr (idx := 30) (ci := 8) (k := 3) (q := 521) (p' := 39) (by decide +kernel) rfl (k_2 hw) (r_2_3 hw) (by decide) ?_
          refine ms_virt_u (idx := 212) (cy := yZ_goUp) (n := 0) (a := 32) (as := []) (rest := []) (p' := 42) (by decide +kernel) rfl rfl rfl rfl (zn_k zn32 hw) rfl (fun f8 => ?_)
          refine ms_goto (off := 10) (p' := 52) (by decide +kernel) ?_
          refine ms_aload_n (k := 0) (p' := 53) (by decide +kernel) rfl rfl ?_
          refine ms_iload_n (k := 1) (p' := 54) (by decide +kernel) rfl rfl ?_
          refine ms_virt_i (idx := 197) (cy := yX_settle) (n := 1) (a := 2) (as := [.inl x1]) (rest := []) (p' := 57) (by decide +kernel) rfl rfl rfl rfl (k_2 hw) rfl (fun f9 v10 => ?_)
          exact ms_iret (by decide +kernel)
      · refine ms_iconst (n := (-1)) (v := (-1)) (p' := 17) (by decide +kernel) rfl ?_
        exact ms_iret (by decide +kernel)
theorem c_X_reset {sw : Bool} {w : mj_W} (hw : wk sw w) (f : mj_F) (x1 : Int) (x2 : Int) (x3 : Int)  : mj_call yX_reset w f [.inr (.inl 2), .inl x1, .inl x2, .inl x3] = mj_bi (mj_call yX_isTable w f [.inl x1]) (fun f1 v2 => if v2 = 0 then some (w, f1, some (.inl (-1))) else mj_bi (mj_call yX_isClock w f1 [.inr (.inl 2), .inl x2]) (fun f3 v4 => if v4 = 0 then some (w, f3, some (.inl (-1))) else if x3 < 0 then some (w, f3, some (.inl (-1))) else if x3 ≤ 50 then mj_gd (0 ≤ x1 ∧ x1 < ((4 : Nat) : Int)) (mj_bu (mj_call yZ_become w f3 [.inr (.inl 32), .inr (.inl (215 + 2 * x1.toNat))]) (fun f6 => mj_bu (mj_call yZ_assign w f6 [.inr (.inl 32), .inl (mj_w (x2 + 1)), .inl x3]) (fun f7 => mj_bi (mj_call yX_settle w f7 [.inr (.inl 2), .inl x1]) (fun f8 v9 => some (w, f8, some (.inl v9)))))) else some (w, f3, some (.inl (-1))))) := by
  show mj_run yX_reset w f 0 [.inr (.inl 2), .inl x1, .inl x2, .inl x3] [] = _
  refine ms_iload_n (k := 1) (p' := 1) (by decide +kernel) rfl rfl ?_
  refine ms_stat_i (idx := 182) (cy := yX_isTable) (n := 1) (as := [.inl x1]) (rest := []) (p' := 4) (by decide +kernel) rfl rfl rfl rfl rfl (fun f1 v2 => ?_)
  refine ms_if_eq (off := 21) (t := 25) (p' := 7) (by decide +kernel) rfl (fun hc => ?_) (fun hc => ?_)
  · refine ms_iconst (n := (-1)) (v := (-1)) (p' := 26) (by decide +kernel) rfl ?_
    exact ms_iret (by decide +kernel)
  · refine ms_aload_n (k := 0) (p' := 8) (by decide +kernel) rfl rfl ?_
    refine ms_iload_n (k := 2) (p' := 9) (by decide +kernel) rfl rfl ?_
    refine ms_virt_i (idx := 176) (cy := yX_isClock) (n := 1) (a := 2) (as := [.inl x2]) (rest := []) (p' := 12) (by decide +kernel) rfl rfl rfl rfl (k_2 hw) rfl (fun f3 v4 => ?_)
    refine ms_if_eq (off := 13) (t := 25) (p' := 15) (by decide +kernel) rfl (fun hc => ?_) (fun hc => ?_)
    · refine ms_iconst (n := (-1)) (v := (-1)) (p' := 26) (by decide +kernel) rfl ?_
      exact ms_iret (by decide +kernel)
    · refine ms_iload_n (k := 3) (p' := 16) (by decide +kernel) rfl rfl ?_
      refine ms_if_lt (off := 9) (t := 25) (p' := 19) (by decide +kernel) rfl (fun hc => ?_) (fun hc => ?_)
      · refine ms_iconst (n := (-1)) (v := (-1)) (p' := 26) (by decide +kernel) rfl ?_
        exact ms_iret (by decide +kernel)
      · refine ms_iload_n (k := 3) (p' := 20) (by decide +kernel) rfl rfl ?_
        refine ms_bipush (n := 50) (v := 50) (p' := 22) (by decide +kernel) rfl ?_
        refine ms_icmp_le (off := 5) (t := 27) (p' := 25) (by decide +kernel) rfl (fun hc => ?_) (fun hc => ?_)
        · refine ms_aload_n (k := 0) (p' := 28) (by decide +kernel) rfl rfl ?_
          refine ms_getr (idx := 30) (ci := 8) (k := 3) (q := 521) (p' := 31) (by decide +kernel) rfl (k_2 hw) (r_2_3 hw) (by decide) ?_
          refine ms_aload_n (k := 0) (p' := 32) (by decide +kernel) rfl rfl ?_
          refine ms_getr (idx := 25) (ci := 8) (k := 2) (q := 520) (p' := 35) (by decide +kernel) rfl (k_2 hw) (r_2_2 hw) (by decide) ?_
          refine ms_iload_n (k := 1) (p' := 36) (by decide +kernel) rfl rfl ?_
          refine ms_aald (p' := 37) (by decide +kernel) rfl (k_31 hw) (rz31 hw) (fun hj5 => ?_)
          refine ms_virt_u (idx := 204) (cy := yZ_become) (n := 1) (a := 32) (as := [.inr (.inl (215 + 2 * x1.toNat))]) (rest := []) (p' := 40) (by decide +kernel) rfl rfl rfl rfl (zn_k zn32 hw) rfl (fun f6 => ?_)
          refine ms_aload_n (k := 0) (p' := 41) (by decide +kernel) rfl rfl ?_
          refine ms_getr (idx := 30) (ci := 8) (k := 3) (q := 521) (p' := 44) (by decide +kernel) rfl (k_2 hw) (r_2_3 hw) (by decide) ?_
          refine ms_iload_n (k := 2) (p' := 45) (by decide +kernel) rfl rfl ?_
          refine ms_iconst (n := 1) (v := 1) (p' := 46) (by decide +kernel) rfl ?_
          refine ms_iadd (p' := 47) (by decide +kernel) rfl ?_
          refine ms_iload_n (k := 3) (p' := 48) (by decide +kernel) rfl rfl ?_
          refine ms_virt_u (idx := 218) (cy := yZ_assign) (n := 2) (a := 32) (as := [.inl (mj_w (x2 + 1)), .inl x3]) (rest := []) (p' := 51) (by decide +kernel) rfl rfl rfl rfl (zn_k zn32 hw) rfl (fun f7 => ?_)
          refine ms_aload_n (k := 0) (p' := 52) (by decide +kernel) rfl rfl ?_
          refine ms_iload_n (k := 1) (p' := 53) (by decide +kernel) rfl rfl ?_
          refine ms_virt_i (idx := 197) (cy := yX_settle) (n := 1) (a := 2) (as := [.inl x1]) (rest := []) (p' := 56) (by decide +kernel) rfl rfl rfl rfl (k_2 hw) rfl (fun f8 v9 => ?_)
          exact ms_iret (by decide +kernel)
        · refine ms_iconst (n := (-1)) (v := (-1)) (p' := 26) (by decide +kernel) rfl ?_
          exact ms_iret (by decide +kernel)
theorem c_X_free {sw : Bool} {w : mj_W} (hw : wk sw w) (f : mj_F) (x1 : Int) (x2 : Int)  : mj_call yX_free w f [.inr (.inl 2), .inl x1, .inl x2] = mj_bi (mj_call yX_isTable w f [.inl x1]) (fun f1 v2 => if v2 = 0 then some (w, f1, some (.inl (-1))) else mj_bi (mj_call yX_isClock w f1 [.inr (.inl 2), .inl x2]) (fun f3 v4 => if ¬ v4 = 0 then mj_gd (0 ≤ x1 ∧ x1 < ((4 : Nat) : Int)) (mj_bu (mj_call yZ_become w f3 [.inr (.inl 32), .inr (.inl (215 + 2 * x1.toNat))]) (fun f6 => mj_bu (mj_call yZ_release w f6 [.inr (.inl 32), .inl (mj_w (x2 + 1))]) (fun f7 => mj_bi (mj_call yX_settle w f7 [.inr (.inl 2), .inl x1]) (fun f8 v9 => some (w, f8, some (.inl v9)))))) else some (w, f3, some (.inl (-1))))) := by
  show mj_run yX_free w f 0 [.inr (.inl 2), .inl x1, .inl x2] [] = _
  refine ms_iload_n (k := 1) (p' := 1) (by decide +kernel) rfl rfl ?_
  refine ms_stat_i (idx := 182) (cy := yX_isTable) (n := 1) (as := [.inl x1]) (rest := []) (p' := 4) (by decide +kernel) rfl rfl rfl rfl rfl (fun f1 v2 => ?_)
  refine ms_if_eq (off := 11) (t := 15) (p' := 7) (by decide +kernel) rfl (fun hc => ?_) (fun hc => ?_)
  · refine ms_iconst (n := (-1)) (v := (-1)) (p' := 16) (by decide +kernel) rfl ?_
    exact ms_iret (by decide +kernel)
  · refine ms_aload_n (k := 0) (p' := 8) (by decide +kernel) rfl rfl ?_
    refine ms_iload_n (k := 2) (p' := 9) (by decide +kernel) rfl rfl ?_
    refine ms_virt_i (idx := 176) (cy := yX_isClock) (n := 1) (a := 2) (as := [.inl x2]) (rest := []) (p' := 12) (by decide +kernel) rfl rfl rfl rfl (k_2 hw) rfl (fun f3 v4 => ?_)
    refine ms_if_ne (off := 5) (t := 17) (p' := 15) (by decide +kernel) rfl (fun hc => ?_) (fun hc => ?_)
    · refine ms_aload_n (k := 0) (p' := 18) (by decide +kernel) rfl rfl ?_
      refine ms_getr (idx := 30) (ci := 8) (k := 3) (q := 521) (p' := 21) (by decide +kernel) rfl (k_2 hw) (r_2_3 hw) (by decide) ?_
      refine ms_aload_n (k := 0) (p' := 22) (by decide +kernel) rfl rfl ?_
      refine ms_getr (idx := 25) (ci := 8) (k := 2) (q := 520) (p' := 25) (by decide +kernel) rfl (k_2 hw) (r_2_2 hw) (by decide) ?_
      refine ms_iload_n (k := 1) (p' := 26) (by decide +kernel) rfl rfl ?_
      refine ms_aald (p' := 27) (by decide +kernel) rfl (k_31 hw) (rz31 hw) (fun hj5 => ?_)
      refine ms_virt_u (idx := 204) (cy := yZ_become) (n := 1) (a := 32) (as := [.inr (.inl (215 + 2 * x1.toNat))]) (rest := []) (p' := 30) (by decide +kernel) rfl rfl rfl rfl (zn_k zn32 hw) rfl (fun f6 => ?_)
      refine ms_aload_n (k := 0) (p' := 31) (by decide +kernel) rfl rfl ?_
      refine ms_getr (idx := 30) (ci := 8) (k := 3) (q := 521) (p' := 34) (by decide +kernel) rfl (k_2 hw) (r_2_3 hw) (by decide) ?_
      refine ms_iload_n (k := 2) (p' := 35) (by decide +kernel) rfl rfl ?_
      refine ms_iconst (n := 1) (v := 1) (p' := 36) (by decide +kernel) rfl ?_
      refine ms_iadd (p' := 37) (by decide +kernel) rfl ?_
      refine ms_virt_u (idx := 222) (cy := yZ_release) (n := 1) (a := 32) (as := [.inl (mj_w (x2 + 1))]) (rest := []) (p' := 40) (by decide +kernel) rfl rfl rfl rfl (zn_k zn32 hw) rfl (fun f7 => ?_)
      refine ms_aload_n (k := 0) (p' := 41) (by decide +kernel) rfl rfl ?_
      refine ms_iload_n (k := 1) (p' := 42) (by decide +kernel) rfl rfl ?_
      refine ms_virt_i (idx := 197) (cy := yX_settle) (n := 1) (a := 2) (as := [.inl x1]) (rest := []) (p' := 45) (by decide +kernel) rfl rfl rfl rfl (k_2 hw) rfl (fun f8 v9 => ?_)
      exact ms_iret (by decide +kernel)
    · refine ms_iconst (n := (-1)) (v := (-1)) (p' := 16) (by decide +kernel) rfl ?_
      exact ms_iret (by decide +kernel)
theorem c_X_copy {sw : Bool} {w : mj_W} (hw : wk sw w) (f : mj_F) (x1 : Int) (x2 : Int)  : mj_call yX_copy w f [.inr (.inl 2), .inl x1, .inl x2] = mj_bi (mj_call yX_isTable w f [.inl x1]) (fun f1 v2 => if v2 = 0 then some (w, f1, some (.inl (-1))) else mj_bi (mj_call yX_isTable w f1 [.inl x2]) (fun f3 v4 => if ¬ v4 = 0 then mj_gd (0 ≤ x2 ∧ x2 < ((4 : Nat) : Int)) (mj_bu (mj_call yZ_become w f3 [.inr (.inl 32), .inr (.inl (215 + 2 * x2.toNat))]) (fun f6 => mj_bi (mj_call yX_settle w f6 [.inr (.inl 2), .inl x1]) (fun f7 v8 => some (w, f7, some (.inl v8))))) else some (w, f3, some (.inl (-1))))) := by
  show mj_run yX_copy w f 0 [.inr (.inl 2), .inl x1, .inl x2] [] = _
  refine ms_iload_n (k := 1) (p' := 1) (by decide +kernel) rfl rfl ?_
  refine ms_stat_i (idx := 182) (cy := yX_isTable) (n := 1) (as := [.inl x1]) (rest := []) (p' := 4) (by decide +kernel) rfl rfl rfl rfl rfl (fun f1 v2 => ?_)
  refine ms_if_eq (off := 10) (t := 14) (p' := 7) (by decide +kernel) rfl (fun hc => ?_) (fun hc => ?_)
  · refine ms_iconst (n := (-1)) (v := (-1)) (p' := 15) (by decide +kernel) rfl ?_
    exact ms_iret (by decide +kernel)
  · refine ms_iload_n (k := 2) (p' := 8) (by decide +kernel) rfl rfl ?_
    refine ms_stat_i (idx := 182) (cy := yX_isTable) (n := 1) (as := [.inl x2]) (rest := []) (p' := 11) (by decide +kernel) rfl rfl rfl rfl rfl (fun f3 v4 => ?_)
    refine ms_if_ne (off := 5) (t := 16) (p' := 14) (by decide +kernel) rfl (fun hc => ?_) (fun hc => ?_)
    · refine ms_aload_n (k := 0) (p' := 17) (by decide +kernel) rfl rfl ?_
      refine ms_getr (idx := 30) (ci := 8) (k := 3) (q := 521) (p' := 20) (by decide +kernel) rfl (k_2 hw) (r_2_3 hw) (by decide) ?_
      refine ms_aload_n (k := 0) (p' := 21) (by decide +kernel) rfl rfl ?_
      refine ms_getr (idx := 25) (ci := 8) (k := 2) (q := 520) (p' := 24) (by decide +kernel) rfl (k_2 hw) (r_2_2 hw) (by decide) ?_
      refine ms_iload_n (k := 2) (p' := 25) (by decide +kernel) rfl rfl ?_
      refine ms_aald (p' := 26) (by decide +kernel) rfl (k_31 hw) (rz31 hw) (fun hj5 => ?_)
      refine ms_virt_u (idx := 204) (cy := yZ_become) (n := 1) (a := 32) (as := [.inr (.inl (215 + 2 * x2.toNat))]) (rest := []) (p' := 29) (by decide +kernel) rfl rfl rfl rfl (zn_k zn32 hw) rfl (fun f6 => ?_)
      refine ms_aload_n (k := 0) (p' := 30) (by decide +kernel) rfl rfl ?_
      refine ms_iload_n (k := 1) (p' := 31) (by decide +kernel) rfl rfl ?_
      refine ms_virt_i (idx := 197) (cy := yX_settle) (n := 1) (a := 2) (as := [.inl x1]) (rest := []) (p' := 34) (by decide +kernel) rfl rfl rfl rfl (k_2 hw) rfl (fun f7 v8 => ?_)
      exact ms_iret (by decide +kernel)
    · refine ms_iconst (n := (-1)) (v := (-1)) (p' := 15) (by decide +kernel) rfl ?_
      exact ms_iret (by decide +kernel)
theorem c_X_join {sw : Bool} {w : mj_W} (hw : wk sw w) (f : mj_F) (x1 : Int) (x2 : Int)  : mj_call yX_join w f [.inr (.inl 2), .inl x1, .inl x2] = mj_bi (mj_call yX_isTable w f [.inl x1]) (fun f1 v2 => if v2 = 0 then some (w, f1, some (.inl (-1))) else mj_bi (mj_call yX_isTable w f1 [.inl x2]) (fun f3 v4 => if ¬ v4 = 0 then mj_gd (0 ≤ x1 ∧ x1 < ((4 : Nat) : Int)) (mj_bu (mj_call yZ_become w f3 [.inr (.inl 32), .inr (.inl (215 + 2 * x1.toNat))]) (fun f6 => mj_gd (0 ≤ x2 ∧ x2 < ((4 : Nat) : Int)) (mj_bu (mj_call yZ_widenTo w f6 [.inr (.inl 32), .inr (.inl (215 + 2 * x2.toNat))]) (fun f8 => mj_bi (mj_call yX_settle w f8 [.inr (.inl 2), .inl x1]) (fun f9 v10 => some (w, f9, some (.inl v10))))))) else some (w, f3, some (.inl (-1))))) := by
  show mj_run yX_join w f 0 [.inr (.inl 2), .inl x1, .inl x2] [] = _
  refine ms_iload_n (k := 1) (p' := 1) (by decide +kernel) rfl rfl ?_
  refine ms_stat_i (idx := 182) (cy := yX_isTable) (n := 1) (as := [.inl x1]) (rest := []) (p' := 4) (by decide +kernel) rfl rfl rfl rfl rfl (fun f1 v2 => ?_)
  refine ms_if_eq (off := 10) (t := 14) (p' := 7) (by decide +kernel) rfl (fun hc => ?_) (fun hc => ?_)
  · refine ms_iconst (n := (-1)) (v := (-1)) (p' := 15) (by decide +kernel) rfl ?_
    exact ms_iret (by decide +kernel)
  · refine ms_iload_n (k := 2) (p' := 8) (by decide +kernel) rfl rfl ?_
    refine ms_stat_i (idx := 182) (cy := yX_isTable) (n := 1) (as := [.inl x2]) (rest := []) (p' := 11) (by decide +kernel) rfl rfl rfl rfl rfl (fun f3 v4 => ?_)
    refine ms_if_ne (off := 5) (t := 16) (p' := 14) (by decide +kernel) rfl (fun hc => ?_) (fun hc => ?_)
    · refine ms_aload_n (k := 0) (p' := 17) (by decide +kernel) rfl rfl ?_
      refine ms_getr (idx := 30) (ci := 8) (k := 3) (q := 521) (p' := 20) (by decide +kernel) rfl (k_2 hw) (r_2_3 hw) (by decide) ?_
      refine ms_aload_n (k := 0) (p' := 21) (by decide +kernel) rfl rfl ?_
      refine ms_getr (idx := 25) (ci := 8) (k := 2) (q := 520) (p' := 24) (by decide +kernel) rfl (k_2 hw) (r_2_2 hw) (by decide) ?_
      refine ms_iload_n (k := 1) (p' := 25) (by decide +kernel) rfl rfl ?_
      refine ms_aald (p' := 26) (by decide +kernel) rfl (k_31 hw) (rz31 hw) (fun hj5 => ?_)
      refine ms_virt_u (idx := 204) (cy := yZ_become) (n := 1) (a := 32) (as := [.inr (.inl (215 + 2 * x1.toNat))]) (rest := []) (p' := 29) (by decide +kernel) rfl rfl rfl rfl (zn_k zn32 hw) rfl (fun f6 => ?_)
      refine ms_aload_n (k := 0) (p' := 30) (by decide +kernel) rfl rfl ?_
      refine ms_getr (idx := 30) (ci := 8) (k := 3) (q := 521) (p' := 33) (by decide +kernel) rfl (k_2 hw) (r_2_3 hw) (by decide) ?_
      refine ms_aload_n (k := 0) (p' := 34) (by decide +kernel) rfl rfl ?_
      refine ms_getr (idx := 25) (ci := 8) (k := 2) (q := 520) (p' := 37) (by decide +kernel) rfl (k_2 hw) (r_2_2 hw) (by decide) ?_
      refine ms_iload_n (k := 2) (p' := 38) (by decide +kernel) rfl rfl ?_
      refine ms_aald (p' := 39) (by decide +kernel) rfl (k_31 hw) (rz31 hw) (fun hj7 => ?_)
      refine ms_virt_u (idx := 225) (cy := yZ_widenTo) (n := 1) (a := 32) (as := [.inr (.inl (215 + 2 * x2.toNat))]) (rest := []) (p' := 42) (by decide +kernel) rfl rfl rfl rfl (zn_k zn32 hw) rfl (fun f8 => ?_)
      refine ms_aload_n (k := 0) (p' := 43) (by decide +kernel) rfl rfl ?_
      refine ms_iload_n (k := 1) (p' := 44) (by decide +kernel) rfl rfl ?_
      refine ms_virt_i (idx := 197) (cy := yX_settle) (n := 1) (a := 2) (as := [.inl x1]) (rest := []) (p' := 47) (by decide +kernel) rfl rfl rfl rfl (k_2 hw) rfl (fun f9 v10 => ?_)
      exact ms_iret (by decide +kernel)
    · refine ms_iconst (n := (-1)) (v := (-1)) (p' := 15) (by decide +kernel) rfl ?_
      exact ms_iret (by decide +kernel)
theorem c_X_both {sw : Bool} {w : mj_W} (hw : wk sw w) (f : mj_F) (x1 : Int) (x2 : Int)  : mj_call yX_both w f [.inr (.inl 2), .inl x1, .inl x2] = mj_bi (mj_call yX_isTable w f [.inl x1]) (fun f1 v2 => if v2 = 0 then some (w, f1, some (.inl (-1))) else mj_bi (mj_call yX_isTable w f1 [.inl x2]) (fun f3 v4 => if ¬ v4 = 0 then mj_gd (0 ≤ x1 ∧ x1 < ((4 : Nat) : Int)) (mj_bu (mj_call yZ_become w f3 [.inr (.inl 32), .inr (.inl (215 + 2 * x1.toNat))]) (fun f6 => mj_gd (0 ≤ x2 ∧ x2 < ((4 : Nat) : Int)) (mj_bu (mj_call yZ_narrowTo w f6 [.inr (.inl 32), .inr (.inl (215 + 2 * x2.toNat))]) (fun f8 => mj_bi (mj_call yX_settle w f8 [.inr (.inl 2), .inl x1]) (fun f9 v10 => some (w, f9, some (.inl v10))))))) else some (w, f3, some (.inl (-1))))) := by
  show mj_run yX_both w f 0 [.inr (.inl 2), .inl x1, .inl x2] [] = _
  refine ms_iload_n (k := 1) (p' := 1) (by decide +kernel) rfl rfl ?_
  refine ms_stat_i (idx := 182) (cy := yX_isTable) (n := 1) (as := [.inl x1]) (rest := []) (p' := 4) (by decide +kernel) rfl rfl rfl rfl rfl (fun f1 v2 => ?_)
  refine ms_if_eq (off := 10) (t := 14) (p' := 7) (by decide +kernel) rfl (fun hc => ?_) (fun hc => ?_)
  · refine ms_iconst (n := (-1)) (v := (-1)) (p' := 15) (by decide +kernel) rfl ?_
    exact ms_iret (by decide +kernel)
  · refine ms_iload_n (k := 2) (p' := 8) (by decide +kernel) rfl rfl ?_
    refine ms_stat_i (idx := 182) (cy := yX_isTable) (n := 1) (as := [.inl x2]) (rest := []) (p' := 11) (by decide +kernel) rfl rfl rfl rfl rfl (fun f3 v4 => ?_)
    refine ms_if_ne (off := 5) (t := 16) (p' := 14) (by decide +kernel) rfl (fun hc => ?_) (fun hc => ?_)
    · refine ms_aload_n (k := 0) (p' := 17) (by decide +kernel) rfl rfl ?_
      refine ms_getr (idx := 30) (ci := 8) (k := 3) (q := 521) (p' := 20) (by decide +kernel) rfl (k_2 hw) (r_2_3 hw) (by decide) ?_
      refine ms_aload_n (k := 0) (p' := 21) (by decide +kernel) rfl rfl ?_
      refine ms_getr (idx := 25) (ci := 8) (k := 2) (q := 520) (p' := 24) (by decide +kernel) rfl (k_2 hw) (r_2_2 hw) (by decide) ?_
      refine ms_iload_n (k := 1) (p' := 25) (by decide +kernel) rfl rfl ?_
      refine ms_aald (p' := 26) (by decide +kernel) rfl (k_31 hw) (rz31 hw) (fun hj5 => ?_)
      refine ms_virt_u (idx := 204) (cy := yZ_become) (n := 1) (a := 32) (as := [.inr (.inl (215 + 2 * x1.toNat))]) (rest := []) (p' := 29) (by decide +kernel) rfl rfl rfl rfl (zn_k zn32 hw) rfl (fun f6 => ?_)
      refine ms_aload_n (k := 0) (p' := 30) (by decide +kernel) rfl rfl ?_
      refine ms_getr (idx := 30) (ci := 8) (k := 3) (q := 521) (p' := 33) (by decide +kernel) rfl (k_2 hw) (r_2_3 hw) (by decide) ?_
      refine ms_aload_n (k := 0) (p' := 34) (by decide +kernel) rfl rfl ?_
      refine ms_getr (idx := 25) (ci := 8) (k := 2) (q := 520) (p' := 37) (by decide +kernel) rfl (k_2 hw) (r_2_2 hw) (by decide) ?_
      refine ms_iload_n (k := 2) (p' := 38) (by decide +kernel) rfl rfl ?_
      refine ms_aald (p' := 39) (by decide +kernel) rfl (k_31 hw) (rz31 hw) (fun hj7 => ?_)
      refine ms_virt_u (idx := 228) (cy := yZ_narrowTo) (n := 1) (a := 32) (as := [.inr (.inl (215 + 2 * x2.toNat))]) (rest := []) (p' := 42) (by decide +kernel) rfl rfl rfl rfl (zn_k zn32 hw) rfl (fun f8 => ?_)
      refine ms_aload_n (k := 0) (p' := 43) (by decide +kernel) rfl rfl ?_
      refine ms_iload_n (k := 1) (p' := 44) (by decide +kernel) rfl rfl ?_
      refine ms_virt_i (idx := 197) (cy := yX_settle) (n := 1) (a := 2) (as := [.inl x1]) (rest := []) (p' := 47) (by decide +kernel) rfl rfl rfl rfl (k_2 hw) rfl (fun f9 v10 => ?_)
      exact ms_iret (by decide +kernel)
    · refine ms_iconst (n := (-1)) (v := (-1)) (p' := 15) (by decide +kernel) rfl ?_
      exact ms_iret (by decide +kernel)
theorem c_X_step {sw : Bool} {w : mj_W} (hw : wk sw w) (f : mj_F) (x1 : Int) (x2 : Int)  : mj_call yX_step w f [.inr (.inl 2), .inl x1, .inl x2] = mj_bi (mj_call yX_isTable w f [.inl x1]) (fun f1 v2 => if v2 = 0 then some (w, f1, some (.inl (-1))) else mj_bi (mj_call yX_isEdge w f1 [.inr (.inl 2), .inl x2]) (fun f3 v4 => if ¬ v4 = 0 then mj_gd (0 ≤ x1 ∧ x1 < ((4 : Nat) : Int)) (mj_bu (mj_call yZ_become w f3 [.inr (.inl 32), .inr (.inl (215 + 2 * x1.toNat))]) (fun f6 => mj_bu (mj_call yZ_stepBy w f6 [.inr (.inl 32), .inr (.inl (pl sw)), .inl x2]) (fun f7 => mj_bi (mj_call yX_settle w f7 [.inr (.inl 2), .inl x1]) (fun f8 v9 => some (w, f8, some (.inl v9)))))) else some (w, f3, some (.inl (-1))))) := by
  show mj_run yX_step w f 0 [.inr (.inl 2), .inl x1, .inl x2] [] = _
  refine ms_iload_n (k := 1) (p' := 1) (by decide +kernel) rfl rfl ?_
  refine ms_stat_i (idx := 182) (cy := yX_isTable) (n := 1) (as := [.inl x1]) (rest := []) (p' := 4) (by decide +kernel) rfl rfl rfl rfl rfl (fun f1 v2 => ?_)
  refine ms_if_eq (off := 11) (t := 15) (p' := 7) (by decide +kernel) rfl (fun hc => ?_) (fun hc => ?_)
  · refine ms_iconst (n := (-1)) (v := (-1)) (p' := 16) (by decide +kernel) rfl ?_
    exact ms_iret (by decide +kernel)
  · refine ms_aload_n (k := 0) (p' := 8) (by decide +kernel) rfl rfl ?_
    refine ms_iload_n (k := 2) (p' := 9) (by decide +kernel) rfl rfl ?_
    refine ms_virt_i (idx := 141) (cy := yX_isEdge) (n := 1) (a := 2) (as := [.inl x2]) (rest := []) (p' := 12) (by decide +kernel) rfl rfl rfl rfl (k_2 hw) rfl (fun f3 v4 => ?_)
    refine ms_if_ne (off := 5) (t := 17) (p' := 15) (by decide +kernel) rfl (fun hc => ?_) (fun hc => ?_)
    · refine ms_aload_n (k := 0) (p' := 18) (by decide +kernel) rfl rfl ?_
      refine ms_getr (idx := 30) (ci := 8) (k := 3) (q := 521) (p' := 21) (by decide +kernel) rfl (k_2 hw) (r_2_3 hw) (by decide) ?_
      refine ms_aload_n (k := 0) (p' := 22) (by decide +kernel) rfl rfl ?_
      refine ms_getr (idx := 25) (ci := 8) (k := 2) (q := 520) (p' := 25) (by decide +kernel) rfl (k_2 hw) (r_2_2 hw) (by decide) ?_
      refine ms_iload_n (k := 1) (p' := 26) (by decide +kernel) rfl rfl ?_
      refine ms_aald (p' := 27) (by decide +kernel) rfl (k_31 hw) (rz31 hw) (fun hj5 => ?_)
      refine ms_virt_u (idx := 204) (cy := yZ_become) (n := 1) (a := 32) (as := [.inr (.inl (215 + 2 * x1.toNat))]) (rest := []) (p' := 30) (by decide +kernel) rfl rfl rfl rfl (zn_k zn32 hw) rfl (fun f6 => ?_)
      refine ms_aload_n (k := 0) (p' := 31) (by decide +kernel) rfl rfl ?_
      refine ms_getr (idx := 30) (ci := 8) (k := 3) (q := 521) (p' := 34) (by decide +kernel) rfl (k_2 hw) (r_2_3 hw) (by decide) ?_
      refine ms_aload_n (k := 0) (p' := 35) (by decide +kernel) rfl rfl ?_
      refine ms_getr (idx := 19) (ci := 8) (k := 1) (q := 519) (p' := 38) (by decide +kernel) rfl (k_2 hw) (r_2_1 hw) (pn_0 (pl_pn sw)) ?_
      refine ms_iload_n (k := 2) (p' := 39) (by decide +kernel) rfl rfl ?_
      refine ms_virt_u (idx := 231) (cy := yZ_stepBy) (n := 2) (a := 32) (as := [.inr (.inl (pl sw)), .inl x2]) (rest := []) (p' := 42) (by decide +kernel) rfl rfl rfl rfl (zn_k zn32 hw) rfl (fun f7 => ?_)
      refine ms_aload_n (k := 0) (p' := 43) (by decide +kernel) rfl rfl ?_
      refine ms_iload_n (k := 1) (p' := 44) (by decide +kernel) rfl rfl ?_
      refine ms_virt_i (idx := 197) (cy := yX_settle) (n := 1) (a := 2) (as := [.inl x1]) (rest := []) (p' := 47) (by decide +kernel) rfl rfl rfl rfl (k_2 hw) rfl (fun f8 v9 => ?_)
      exact ms_iret (by decide +kernel)
    · refine ms_iconst (n := (-1)) (v := (-1)) (p' := 16) (by decide +kernel) rfl ?_
      exact ms_iret (by decide +kernel)
theorem c_X_stay {sw : Bool} {w : mj_W} (hw : wk sw w) (f : mj_F) (x1 : Int) (x2 : Int)  : mj_call yX_stay w f [.inr (.inl 2), .inl x1, .inl x2] = mj_bi (mj_call yX_isTable w f [.inl x1]) (fun f1 v2 => if v2 = 0 then some (w, f1, some (.inl (-1))) else mj_bi (mj_call yX_isPlace w f1 [.inr (.inl 2), .inl x2]) (fun f3 v4 => if ¬ v4 = 0 then mj_gd (0 ≤ x1 ∧ x1 < ((4 : Nat) : Int)) (mj_bu (mj_call yZ_become w f3 [.inr (.inl 32), .inr (.inl (215 + 2 * x1.toNat))]) (fun f6 => mj_bu (mj_call yZ_waitIn w f6 [.inr (.inl 32), .inr (.inl (pl sw)), .inl x2]) (fun f7 => mj_bi (mj_call yX_settle w f7 [.inr (.inl 2), .inl x1]) (fun f8 v9 => some (w, f8, some (.inl v9)))))) else some (w, f3, some (.inl (-1))))) := by
  show mj_run yX_stay w f 0 [.inr (.inl 2), .inl x1, .inl x2] [] = _
  refine ms_iload_n (k := 1) (p' := 1) (by decide +kernel) rfl rfl ?_
  refine ms_stat_i (idx := 182) (cy := yX_isTable) (n := 1) (as := [.inl x1]) (rest := []) (p' := 4) (by decide +kernel) rfl rfl rfl rfl rfl (fun f1 v2 => ?_)
  refine ms_if_eq (off := 11) (t := 15) (p' := 7) (by decide +kernel) rfl (fun hc => ?_) (fun hc => ?_)
  · refine ms_iconst (n := (-1)) (v := (-1)) (p' := 16) (by decide +kernel) rfl ?_
    exact ms_iret (by decide +kernel)
  · refine ms_aload_n (k := 0) (p' := 8) (by decide +kernel) rfl rfl ?_
    refine ms_iload_n (k := 2) (p' := 9) (by decide +kernel) rfl rfl ?_
    refine ms_virt_i (idx := 107) (cy := yX_isPlace) (n := 1) (a := 2) (as := [.inl x2]) (rest := []) (p' := 12) (by decide +kernel) rfl rfl rfl rfl (k_2 hw) rfl (fun f3 v4 => ?_)
    refine ms_if_ne (off := 5) (t := 17) (p' := 15) (by decide +kernel) rfl (fun hc => ?_) (fun hc => ?_)
    · refine ms_aload_n (k := 0) (p' := 18) (by decide +kernel) rfl rfl ?_
      refine ms_getr (idx := 30) (ci := 8) (k := 3) (q := 521) (p' := 21) (by decide +kernel) rfl (k_2 hw) (r_2_3 hw) (by decide) ?_
      refine ms_aload_n (k := 0) (p' := 22) (by decide +kernel) rfl rfl ?_
      refine ms_getr (idx := 25) (ci := 8) (k := 2) (q := 520) (p' := 25) (by decide +kernel) rfl (k_2 hw) (r_2_2 hw) (by decide) ?_
      refine ms_iload_n (k := 1) (p' := 26) (by decide +kernel) rfl rfl ?_
      refine ms_aald (p' := 27) (by decide +kernel) rfl (k_31 hw) (rz31 hw) (fun hj5 => ?_)
      refine ms_virt_u (idx := 204) (cy := yZ_become) (n := 1) (a := 32) (as := [.inr (.inl (215 + 2 * x1.toNat))]) (rest := []) (p' := 30) (by decide +kernel) rfl rfl rfl rfl (zn_k zn32 hw) rfl (fun f6 => ?_)
      refine ms_aload_n (k := 0) (p' := 31) (by decide +kernel) rfl rfl ?_
      refine ms_getr (idx := 30) (ci := 8) (k := 3) (q := 521) (p' := 34) (by decide +kernel) rfl (k_2 hw) (r_2_3 hw) (by decide) ?_
      refine ms_aload_n (k := 0) (p' := 35) (by decide +kernel) rfl rfl ?_
      refine ms_getr (idx := 19) (ci := 8) (k := 1) (q := 519) (p' := 38) (by decide +kernel) rfl (k_2 hw) (r_2_1 hw) (pn_0 (pl_pn sw)) ?_
      refine ms_iload_n (k := 2) (p' := 39) (by decide +kernel) rfl rfl ?_
      refine ms_virt_u (idx := 235) (cy := yZ_waitIn) (n := 2) (a := 32) (as := [.inr (.inl (pl sw)), .inl x2]) (rest := []) (p' := 42) (by decide +kernel) rfl rfl rfl rfl (zn_k zn32 hw) rfl (fun f7 => ?_)
      refine ms_aload_n (k := 0) (p' := 43) (by decide +kernel) rfl rfl ?_
      refine ms_iload_n (k := 1) (p' := 44) (by decide +kernel) rfl rfl ?_
      refine ms_virt_i (idx := 197) (cy := yX_settle) (n := 1) (a := 2) (as := [.inl x1]) (rest := []) (p' := 47) (by decide +kernel) rfl rfl rfl rfl (k_2 hw) rfl (fun f8 v9 => ?_)
      exact ms_iret (by decide +kernel)
    · refine ms_iconst (n := (-1)) (v := (-1)) (p' := 16) (by decide +kernel) rfl ?_
      exact ms_iret (by decide +kernel)
theorem c_X_rough {sw : Bool} {w : mj_W} (hw : wk sw w) (f : mj_F) (x1 : Int)  : mj_call yX_rough w f [.inr (.inl 2), .inl x1] = mj_bi (mj_call yX_isTable w f [.inl x1]) (fun f1 v2 => if ¬ v2 = 0 then mj_gd (0 ≤ x1 ∧ x1 < ((4 : Nat) : Int)) (mj_bu (mj_call yZ_become w f1 [.inr (.inl 32), .inr (.inl (215 + 2 * x1.toNat))]) (fun f4 => mj_bu (mj_call yZ_roughen w f4 [.inr (.inl 32), .inr (.inl (pl sw))]) (fun f5 => mj_bi (mj_call yX_settle w f5 [.inr (.inl 2), .inl x1]) (fun f6 v7 => some (w, f6, some (.inl v7)))))) else some (w, f1, some (.inl (-1)))) := by
  show mj_run yX_rough w f 0 [.inr (.inl 2), .inl x1] [] = _
  refine ms_iload_n (k := 1) (p' := 1) (by decide +kernel) rfl rfl ?_
  refine ms_stat_i (idx := 182) (cy := yX_isTable) (n := 1) (as := [.inl x1]) (rest := []) (p' := 4) (by decide +kernel) rfl rfl rfl rfl rfl (fun f1 v2 => ?_)
  refine ms_if_ne (off := 5) (t := 9) (p' := 7) (by decide +kernel) rfl (fun hc => ?_) (fun hc => ?_)
  · refine ms_aload_n (k := 0) (p' := 10) (by decide +kernel) rfl rfl ?_
    refine ms_getr (idx := 30) (ci := 8) (k := 3) (q := 521) (p' := 13) (by decide +kernel) rfl (k_2 hw) (r_2_3 hw) (by decide) ?_
    refine ms_aload_n (k := 0) (p' := 14) (by decide +kernel) rfl rfl ?_
    refine ms_getr (idx := 25) (ci := 8) (k := 2) (q := 520) (p' := 17) (by decide +kernel) rfl (k_2 hw) (r_2_2 hw) (by decide) ?_
    refine ms_iload_n (k := 1) (p' := 18) (by decide +kernel) rfl rfl ?_
    refine ms_aald (p' := 19) (by decide +kernel) rfl (k_31 hw) (rz31 hw) (fun hj3 => ?_)
    refine ms_virt_u (idx := 204) (cy := yZ_become) (n := 1) (a := 32) (as := [.inr (.inl (215 + 2 * x1.toNat))]) (rest := []) (p' := 22) (by decide +kernel) rfl rfl rfl rfl (zn_k zn32 hw) rfl (fun f4 => ?_)
    refine ms_aload_n (k := 0) (p' := 23) (by decide +kernel) rfl rfl ?_
    refine ms_getr (idx := 30) (ci := 8) (k := 3) (q := 521) (p' := 26) (by decide +kernel) rfl (k_2 hw) (r_2_3 hw) (by decide) ?_
    refine ms_aload_n (k := 0) (p' := 27) (by decide +kernel) rfl rfl ?_
    refine ms_getr (idx := 19) (ci := 8) (k := 1) (q := 519) (p' := 30) (by decide +kernel) rfl (k_2 hw) (r_2_1 hw) (pn_0 (pl_pn sw)) ?_
    refine ms_virt_u (idx := 238) (cy := yZ_roughen) (n := 1) (a := 32) (as := [.inr (.inl (pl sw))]) (rest := []) (p' := 33) (by decide +kernel) rfl rfl rfl rfl (zn_k zn32 hw) rfl (fun f5 => ?_)
    refine ms_aload_n (k := 0) (p' := 34) (by decide +kernel) rfl rfl ?_
    refine ms_iload_n (k := 1) (p' := 35) (by decide +kernel) rfl rfl ?_
    refine ms_virt_i (idx := 197) (cy := yX_settle) (n := 1) (a := 2) (as := [.inl x1]) (rest := []) (p' := 38) (by decide +kernel) rfl rfl rfl rfl (k_2 hw) rfl (fun f6 v7 => ?_)
    exact ms_iret (by decide +kernel)
  · refine ms_iconst (n := (-1)) (v := (-1)) (p' := 8) (by decide +kernel) rfl ?_
    exact ms_iret (by decide +kernel)
theorem c_X_isNode {sw : Bool} {w : mj_W} (hw : wk sw w) (f : mj_F) (x1 : Int)  : mj_call yX_isNode w f [.inr (.inl 2), .inl x1] = if x1 < 0 then some (w, f, some (.inl 0)) else if (f 37 9) ≤ x1 then some (w, f, some (.inl 0)) else some (w, f, some (.inl 1)) := by
  show mj_run yX_isNode w f 0 [.inr (.inl 2), .inl x1] [] = _
  refine ms_iload_n (k := 1) (p' := 1) (by decide +kernel) rfl rfl ?_
  refine ms_if_lt (off := 18) (t := 19) (p' := 4) (by decide +kernel) rfl (fun hc => ?_) (fun hc => ?_)
  · refine ms_iconst (n := 0) (v := 0) (p' := 20) (by decide +kernel) rfl ?_
    exact (ms_zret (by decide +kernel)).trans (mj_gd_pos (by decide) _)
  · refine ms_iload_n (k := 1) (p' := 5) (by decide +kernel) rfl rfl ?_
    refine ms_aload_n (k := 0) (p' := 6) (by decide +kernel) rfl rfl ?_
    refine ms_getr (idx := 44) (ci := 8) (k := 6) (q := 524) (p' := 9) (by decide +kernel) rfl (k_2 hw) (r_2_6 hw) (by decide) ?_
    refine ms_geti (idx := 327) (ci := 0) (k := 9) (q := 399) (p' := 12) (by decide +kernel) rfl (k_37 hw) ?_
    refine ms_icmp_ge (off := 7) (t := 19) (p' := 15) (by decide +kernel) rfl (fun hc => ?_) (fun hc => ?_)
    · refine ms_iconst (n := 0) (v := 0) (p' := 20) (by decide +kernel) rfl ?_
      exact (ms_zret (by decide +kernel)).trans (mj_gd_pos (by decide) _)
    · refine ms_iconst (n := 1) (v := 1) (p' := 16) (by decide +kernel) rfl ?_
      refine ms_goto (off := 4) (p' := 20) (by decide +kernel) ?_
      exact (ms_zret (by decide +kernel)).trans (mj_gd_pos (by decide) _)
theorem c_X_take {sw : Bool} {w : mj_W} (hw : wk sw w) (f : mj_F) (x1 : Int) (x2 : Int)  : mj_call yX_take w f [.inr (.inl 2), .inl x1, .inl x2] = mj_bi (mj_call yX_isTable w f [.inl x1]) (fun f1 v2 => if v2 = 0 then some (w, f1, some (.inl (-1))) else mj_bi (mj_call yX_isNode w f1 [.inr (.inl 2), .inl x2]) (fun f3 v4 => if ¬ v4 = 0 then mj_gd (0 ≤ x2 ∧ x2 < ((60 : Nat) : Int)) (mj_bu (mj_call yZ_become w f3 [.inr (.inl 32), .inr (.inl (48 + 2 * x2.toNat))]) (fun f6 => mj_bi (mj_call yX_settle w f6 [.inr (.inl 2), .inl x1]) (fun f7 v8 => some (w, f7, some (.inl v8))))) else some (w, f3, some (.inl (-1))))) := by
  show mj_run yX_take w f 0 [.inr (.inl 2), .inl x1, .inl x2] [] = _
  refine ms_iload_n (k := 1) (p' := 1) (by decide +kernel) rfl rfl ?_
  refine ms_stat_i (idx := 182) (cy := yX_isTable) (n := 1) (as := [.inl x1]) (rest := []) (p' := 4) (by decide +kernel) rfl rfl rfl rfl rfl (fun f1 v2 => ?_)
  refine ms_if_eq (off := 11) (t := 15) (p' := 7) (by decide +kernel) rfl (fun hc => ?_) (fun hc => ?_)
  · refine ms_iconst (n := (-1)) (v := (-1)) (p' := 16) (by decide +kernel) rfl ?_
    exact ms_iret (by decide +kernel)
  · refine ms_aload_n (k := 0) (p' := 8) (by decide +kernel) rfl rfl ?_
    refine ms_iload_n (k := 2) (p' := 9) (by decide +kernel) rfl rfl ?_
    refine ms_virt_i (idx := 241) (cy := yX_isNode) (n := 1) (a := 2) (as := [.inl x2]) (rest := []) (p' := 12) (by decide +kernel) rfl rfl rfl rfl (k_2 hw) rfl (fun f3 v4 => ?_)
    refine ms_if_ne (off := 5) (t := 17) (p' := 15) (by decide +kernel) rfl (fun hc => ?_) (fun hc => ?_)
    · refine ms_aload_n (k := 0) (p' := 18) (by decide +kernel) rfl rfl ?_
      refine ms_getr (idx := 30) (ci := 8) (k := 3) (q := 521) (p' := 21) (by decide +kernel) rfl (k_2 hw) (r_2_3 hw) (by decide) ?_
      refine ms_aload_n (k := 0) (p' := 22) (by decide +kernel) rfl rfl ?_
      refine ms_getr (idx := 44) (ci := 8) (k := 6) (q := 524) (p' := 25) (by decide +kernel) rfl (k_2 hw) (r_2_6 hw) (by decide) ?_
      refine ms_getr (idx := 244) (ci := 0) (k := 0) (q := 383) (p' := 28) (by decide +kernel) rfl (k_37 hw) (r_37_0 hw) (by decide) ?_
      refine ms_iload_n (k := 2) (p' := 29) (by decide +kernel) rfl rfl ?_
      refine ms_aald (p' := 30) (by decide +kernel) rfl (k_38 hw) (rz38 hw) (fun hj5 => ?_)
      refine ms_virt_u (idx := 204) (cy := yZ_become) (n := 1) (a := 32) (as := [.inr (.inl (48 + 2 * x2.toNat))]) (rest := []) (p' := 33) (by decide +kernel) rfl rfl rfl rfl (zn_k zn32 hw) rfl (fun f6 => ?_)
      refine ms_aload_n (k := 0) (p' := 34) (by decide +kernel) rfl rfl ?_
      refine ms_iload_n (k := 1) (p' := 35) (by decide +kernel) rfl rfl ?_
      refine ms_virt_i (idx := 197) (cy := yX_settle) (n := 1) (a := 2) (as := [.inl x1]) (rest := []) (p' := 38) (by decide +kernel) rfl rfl rfl rfl (k_2 hw) rfl (fun f7 v8 => ?_)
      exact ms_iret (by decide +kernel)
    · refine ms_iconst (n := (-1)) (v := (-1)) (p' := 16) (by decide +kernel) rfl ?_
      exact ms_iret (by decide +kernel)
theorem c_X_undo {sw : Bool} {w : mj_W} (hw : wk sw w) (f : mj_F)   : mj_call yX_undo w f [.inr (.inl 2)] = if ¬ (f 178 5) = 0 then mj_bi (mj_call yH_dropLatest w f [.inr (.inl 178)]) (fun f1 v2 => mj_gd (0 ≤ v2 ∧ v2 < ((16 : Nat) : Int)) (mj_bi (mj_call yX_isTable w f1 [.inl (f1 179 v2.toNat)]) (fun f4 v5 => if v5 = 0 then mj_bu (mj_call yH_restorePath w f4 [.inr (.inl 178), .inl v2, .inr (.inl 168)]) (fun f6 => some (w, (mj_u f6 170 4 1), some (.inl (mj_u f6 170 4 1 178 5)))) else mj_gd (0 ≤ (f1 179 v2.toNat) ∧ (f1 179 v2.toNat) < ((4 : Nat) : Int)) (mj_gd (0 ≤ v2 ∧ v2 < ((16 : Nat) : Int)) (mj_bu (mj_call yZ_become w f4 [.inr (.inl (215 + 2 * (f1 179 v2.toNat).toNat)), .inr (.inl (183 + 2 * v2.toNat))]) (fun f9 => some (w, f9, some (.inl (f9 178 5))))))))) else some (w, f, some (.inl (-1))) := by
  show mj_run yX_undo w f 0 [.inr (.inl 2), .inr (.inr (.inr 0)), .inr (.inr (.inr 0))] [] = _
  refine ms_aload_n (k := 0) (p' := 1) (by decide +kernel) rfl rfl ?_
  refine ms_getr (idx := 72) (ci := 8) (k := 10) (q := 528) (p' := 4) (by decide +kernel) rfl (k_2 hw) (r_2_10 hw) (by decide) ?_
  refine ms_geti (idx := 250) (ci := 1) (k := 5) (q := 504) (p' := 7) (by decide +kernel) rfl (k_178 hw) ?_
  refine ms_if_ne (off := 5) (t := 12) (p' := 10) (by decide +kernel) rfl (fun hc => ?_) (fun hc => ?_)
  · refine ms_aload_n (k := 0) (p' := 13) (by decide +kernel) rfl rfl ?_
    refine ms_getr (idx := 72) (ci := 8) (k := 10) (q := 528) (p' := 16) (by decide +kernel) rfl (k_2 hw) (r_2_10 hw) (by decide) ?_
    refine ms_virt_i (idx := 253) (cy := yH_dropLatest) (n := 0) (a := 178) (as := []) (rest := []) (p' := 19) (by decide +kernel) rfl rfl rfl rfl (k_178 hw) rfl (fun f1 v2 => ?_)
    refine ms_istore_n (k := 1) (ls' := [.inr (.inl 2), .inl v2, .inr (.inr (.inr 0))]) (p' := 20) (by decide +kernel) rfl (Nat.le_of_ble_eq_true rfl) rfl ?_
    refine ms_aload_n (k := 0) (p' := 21) (by decide +kernel) rfl rfl ?_
    refine ms_getr (idx := 72) (ci := 8) (k := 10) (q := 528) (p' := 24) (by decide +kernel) rfl (k_2 hw) (r_2_10 hw) (by decide) ?_
    refine ms_getr (idx := 257) (ci := 1) (k := 0) (q := 497) (p' := 27) (by decide +kernel) rfl (k_178 hw) (r_178_0 hw) (by decide) ?_
    refine ms_iload_n (k := 1) (p' := 28) (by decide +kernel) rfl rfl ?_
    refine ms_iald (p' := 29) (by decide +kernel) rfl (k_179 hw) (fun hj3 => ?_)
    refine ms_istore_n (k := 2) (ls' := [.inr (.inl 2), .inl v2, .inl (f1 179 v2.toNat)]) (p' := 30) (by decide +kernel) rfl (Nat.le_of_ble_eq_true rfl) rfl ?_
    refine ms_iload_n (k := 2) (p' := 31) (by decide +kernel) rfl rfl ?_
    refine ms_stat_i (idx := 182) (cy := yX_isTable) (n := 1) (as := [.inl (f1 179 v2.toNat)]) (rest := []) (p' := 34) (by decide +kernel) rfl rfl rfl rfl rfl (fun f4 v5 => ?_)
    refine ms_if_eq (off := 24) (t := 58) (p' := 37) (by decide +kernel) rfl (fun hc => ?_) (fun hc => ?_)
    · refine ms_aload_n (k := 0) (p' := 59) (by decide +kernel) rfl rfl ?_
      refine ms_getr (idx := 72) (ci := 8) (k := 10) (q := 528) (p' := 62) (by decide +kernel) rfl (k_2 hw) (r_2_10 hw) (by decide) ?_
      refine ms_iload_n (k := 1) (p' := 63) (by decide +kernel) rfl rfl ?_
      refine ms_aload_n (k := 0) (p' := 64) (by decide +kernel) rfl rfl ?_
      refine ms_getr (idx := 51) (ci := 8) (k := 7) (q := 525) (p' := 67) (by decide +kernel) rfl (k_2 hw) (r_2_7 hw) (by decide) ?_
      refine ms_virt_u (idx := 261) (cy := yH_restorePath) (n := 2) (a := 178) (as := [.inl v2, .inr (.inl 168)]) (rest := []) (p' := 70) (by decide +kernel) rfl rfl rfl rfl (k_178 hw) rfl (fun f6 => ?_)
      refine ms_aload_n (k := 0) (p' := 71) (by decide +kernel) rfl rfl ?_
      refine ms_getr (idx := 58) (ci := 8) (k := 8) (q := 526) (p' := 74) (by decide +kernel) rfl (k_2 hw) (r_2_8 hw) (by decide) ?_
      refine ms_iconst (n := 1) (v := 1) (p' := 75) (by decide +kernel) rfl ?_
      refine Eq.trans (ms_putz (idx := 265) (ci := 5) (k := 4) (q := 451) (p' := 78) (by decide +kernel) rfl (k_170 hw) (fun _ => ?_)) (mj_gd_pos (by decide) _)
      refine ms_aload_n (k := 0) (p' := 79) (by decide +kernel) rfl rfl ?_
      refine ms_getr (idx := 72) (ci := 8) (k := 10) (q := 528) (p' := 82) (by decide +kernel) rfl (k_2 hw) (r_2_10 hw) (by decide) ?_
      refine ms_geti (idx := 250) (ci := 1) (k := 5) (q := 504) (p' := 85) (by decide +kernel) rfl (k_178 hw) ?_
      exact ms_iret (by decide +kernel)
    · refine ms_aload_n (k := 0) (p' := 38) (by decide +kernel) rfl rfl ?_
      refine ms_getr (idx := 25) (ci := 8) (k := 2) (q := 520) (p' := 41) (by decide +kernel) rfl (k_2 hw) (r_2_2 hw) (by decide) ?_
      refine ms_iload_n (k := 2) (p' := 42) (by decide +kernel) rfl rfl ?_
      refine ms_aald (p' := 43) (by decide +kernel) rfl (k_31 hw) (rz31 hw) (fun hj7 => ?_)
      refine ms_aload_n (k := 0) (p' := 44) (by decide +kernel) rfl rfl ?_
      refine ms_getr (idx := 72) (ci := 8) (k := 10) (q := 528) (p' := 47) (by decide +kernel) rfl (k_2 hw) (r_2_10 hw) (by decide) ?_
      refine ms_getr (idx := 260) (ci := 1) (k := 1) (q := 499) (p' := 50) (by decide +kernel) rfl (k_178 hw) (r_178_1 hw) (by decide) ?_
      refine ms_iload_n (k := 1) (p' := 51) (by decide +kernel) rfl rfl ?_
      refine ms_aald (p' := 52) (by decide +kernel) rfl (k_180 hw) (rz180 hw) (fun hj8 => ?_)
      refine ms_virt_u (idx := 204) (cy := yZ_become) (n := 1) (a := (215 + 2 * (f1 179 v2.toNat).toNat)) (as := [.inr (.inl (183 + 2 * v2.toNat))]) (rest := []) (p' := 55) (by decide +kernel) rfl rfl rfl rfl (zn_k (zz31 hj7) hw) rfl (fun f9 => ?_)
      refine ms_goto (off := 23) (p' := 78) (by decide +kernel) ?_
      refine ms_aload_n (k := 0) (p' := 79) (by decide +kernel) rfl rfl ?_
      refine ms_getr (idx := 72) (ci := 8) (k := 10) (q := 528) (p' := 82) (by decide +kernel) rfl (k_2 hw) (r_2_10 hw) (by decide) ?_
      refine ms_geti (idx := 250) (ci := 1) (k := 5) (q := 504) (p' := 85) (by decide +kernel) rfl (k_178 hw) ?_
      exact ms_iret (by decide +kernel)
  · refine ms_iconst (n := (-1)) (v := (-1)) (p' := 11) (by decide +kernel) rfl ?_
    exact ms_iret (by decide +kernel)
theorem c_X_tellBound {sw : Bool} {w : mj_W} (hw : wk sw w) (f : mj_F) (x0 : Int) (x1 : Int)  : mj_call yX_tellBound w f [.inl x0, .inl x1] = if x0 < 268435456 then if ¬ x1 = 0 then mj_bi (mj_call yX_reachedOf w f [.inl x0]) (fun f1 v2 => some (w, f1, some (.inl v2))) else mj_bi (mj_call yX_numberOf w f [.inl x0]) (fun f3 v4 => some (w, f3, some (.inl v4))) else if ¬ x1 = 0 then some (w, f, some (.inl 0)) else some (w, f, some (.inl 1000)) := by
  show mj_run yX_tellBound w f 0 [.inl x0, .inl x1] [] = _
  refine ms_iload_n (k := 0) (p' := 1) (by decide +kernel) rfl rfl ?_
  refine ms_ldc_w (idx := 437) (v := 268435456) (p' := 4) (by decide +kernel) rfl ?_
  refine ms_icmp_lt (off := 15) (t := 19) (p' := 7) (by decide +kernel) rfl (fun hc => ?_) (fun hc => ?_)
  · refine ms_iload_n (k := 1) (p' := 20) (by decide +kernel) rfl rfl ?_
    refine ms_if_ne (off := 10) (t := 30) (p' := 23) (by decide +kernel) rfl (fun hc => ?_) (fun hc => ?_)
    · refine ms_iload_n (k := 0) (p' := 31) (by decide +kernel) rfl rfl ?_
      refine ms_stat_i (idx := 324) (cy := yX_reachedOf) (n := 1) (as := [.inl x0]) (rest := []) (p' := 34) (by decide +kernel) rfl rfl rfl rfl rfl (fun f1 v2 => ?_)
      exact ms_iret (by decide +kernel)
    · refine ms_iload_n (k := 0) (p' := 24) (by decide +kernel) rfl rfl ?_
      refine ms_stat_i (idx := 438) (cy := yX_numberOf) (n := 1) (as := [.inl x0]) (rest := []) (p' := 27) (by decide +kernel) rfl rfl rfl rfl rfl (fun f3 v4 => ?_)
      refine ms_goto (off := 7) (p' := 34) (by decide +kernel) ?_
      exact ms_iret (by decide +kernel)
  · refine ms_iload_n (k := 1) (p' := 8) (by decide +kernel) rfl rfl ?_
    refine ms_if_ne (off := 9) (t := 17) (p' := 11) (by decide +kernel) rfl (fun hc => ?_) (fun hc => ?_)
    · refine ms_iconst (n := 0) (v := 0) (p' := 18) (by decide +kernel) rfl ?_
      exact ms_iret (by decide +kernel)
    · refine ms_sipush (n := 1000) (v := 1000) (p' := 14) (by decide +kernel) rfl ?_
      refine ms_goto (off := 4) (p' := 18) (by decide +kernel) ?_
      exact ms_iret (by decide +kernel)
theorem c_X_boundOf {sw : Bool} {w : mj_W} (hw : wk sw w) (f : mj_F) (z1 : Nat) (x2 : Int) (x3 : Int) (x4 : Int) (hz1 : zn z1 = true) : mj_call yX_boundOf w f [.inr (.inl 2), .inr (.inl z1), .inl x2, .inl x3, .inl x4] = mj_bi (mj_call yX_isPair w f [.inr (.inl 2), .inl x2, .inl x3]) (fun f1 v2 => if v2 = 0 then some (w, f1, some (.inl (-2000))) else if x4 < 0 then some (w, f1, some (.inl (-2000))) else if x4 ≤ 1 then if (f1 z1 2) = 0 then mj_bi (mj_call yZ_cell w f1 [.inr (.inl z1), .inl (mj_w (x2 + 1)), .inl (mj_w (x3 + 1))]) (fun f3 v4 => mj_bi (mj_call yX_tellBound w f3 [.inl v4, .inl x4]) (fun f5 v6 => some (w, f5, some (.inl v6)))) else some (w, f1, some (.inl (-1000))) else some (w, f1, some (.inl (-2000)))) := by
  show mj_run yX_boundOf w f 0 [.inr (.inl 2), .inr (.inl z1), .inl x2, .inl x3, .inl x4] [] = _
  refine ms_aload_n (k := 0) (p' := 1) (by decide +kernel) rfl rfl ?_
  refine ms_iload_n (k := 2) (p' := 2) (by decide +kernel) rfl rfl ?_
  refine ms_iload_n (k := 3) (p' := 3) (by decide +kernel) rfl rfl ?_
  refine ms_virt_i (idx := 200) (cy := yX_isPair) (n := 2) (a := 2) (as := [.inl x2, .inl x3]) (rest := []) (p' := 6) (by decide +kernel) rfl rfl rfl rfl (k_2 hw) rfl (fun f1 v2 => ?_)
  refine ms_if_eq (off := 14) (t := 20) (p' := 9) (by decide +kernel) rfl (fun hc => ?_) (fun hc => ?_)
  · refine ms_sipush (n := (-2000)) (v := (-2000)) (p' := 23) (by decide +kernel) rfl ?_
    exact ms_iret (by decide +kernel)
  · refine ms_iload (k := 4) (p' := 11) (by decide +kernel) rfl rfl ?_
    refine ms_if_lt (off := 9) (t := 20) (p' := 14) (by decide +kernel) rfl (fun hc => ?_) (fun hc => ?_)
    · refine ms_sipush (n := (-2000)) (v := (-2000)) (p' := 23) (by decide +kernel) rfl ?_
      exact ms_iret (by decide +kernel)
    · refine ms_iload (k := 4) (p' := 16) (by decide +kernel) rfl rfl ?_
      refine ms_iconst (n := 1) (v := 1) (p' := 17) (by decide +kernel) rfl ?_
      refine ms_icmp_le (off := 7) (t := 24) (p' := 20) (by decide +kernel) rfl (fun hc => ?_) (fun hc => ?_)
      · refine ms_aload_n (k := 1) (p' := 25) (by decide +kernel) rfl rfl ?_
        refine ms_geti (idx := 273) (ci := 7) (k := 2) (q := 365) (p' := 28) (by decide +kernel) rfl (zn_k hz1 hw) ?_
        refine ms_if_eq (off := 9) (t := 37) (p' := 31) (by decide +kernel) rfl (fun hc => ?_) (fun hc => ?_)
        · refine ms_aload_n (k := 1) (p' := 38) (by decide +kernel) rfl rfl ?_
          refine ms_iload_n (k := 2) (p' := 39) (by decide +kernel) rfl rfl ?_
          refine ms_iconst (n := 1) (v := 1) (p' := 40) (by decide +kernel) rfl ?_
          refine ms_iadd (p' := 41) (by decide +kernel) rfl ?_
          refine ms_iload_n (k := 3) (p' := 42) (by decide +kernel) rfl rfl ?_
          refine ms_iconst (n := 1) (v := 1) (p' := 43) (by decide +kernel) rfl ?_
          refine ms_iadd (p' := 44) (by decide +kernel) rfl ?_
          refine ms_virt_i (idx := 308) (cy := yZ_cell) (n := 2) (a := z1) (as := [.inl (mj_w (x2 + 1)), .inl (mj_w (x3 + 1))]) (rest := []) (p' := 47) (by decide +kernel) rfl rfl rfl rfl (zn_k hz1 hw) rfl (fun f3 v4 => ?_)
          refine ms_iload (k := 4) (p' := 49) (by decide +kernel) rfl rfl ?_
          refine ms_stat_i (idx := 315) (cy := yX_tellBound) (n := 2) (as := [.inl v4, .inl x4]) (rest := []) (p' := 52) (by decide +kernel) rfl rfl rfl rfl rfl (fun f5 v6 => ?_)
          exact ms_iret (by decide +kernel)
        · refine ms_sipush (n := (-1000)) (v := (-1000)) (p' := 34) (by decide +kernel) rfl ?_
          refine ms_goto (off := 18) (p' := 52) (by decide +kernel) ?_
          exact ms_iret (by decide +kernel)
      · refine ms_sipush (n := (-2000)) (v := (-2000)) (p' := 23) (by decide +kernel) rfl ?_
        exact ms_iret (by decide +kernel)
theorem c_X_bound {sw : Bool} {w : mj_W} (hw : wk sw w) (f : mj_F) (x1 : Int) (x2 : Int) (x3 : Int) (x4 : Int)  : mj_call yX_bound w f [.inr (.inl 2), .inl x1, .inl x2, .inl x3, .inl x4] = mj_bi (mj_call yX_isTable w f [.inl x1]) (fun f1 v2 => if ¬ v2 = 0 then mj_gd (0 ≤ x1 ∧ x1 < ((4 : Nat) : Int)) (mj_bi (mj_call yX_boundOf w f1 [.inr (.inl 2), .inr (.inl (215 + 2 * x1.toNat)), .inl x2, .inl x3, .inl x4]) (fun f4 v5 => some (w, f4, some (.inl v5)))) else some (w, f1, some (.inl (-2000)))) := by
  show mj_run yX_bound w f 0 [.inr (.inl 2), .inl x1, .inl x2, .inl x3, .inl x4] [] = _
  refine ms_iload_n (k := 1) (p' := 1) (by decide +kernel) rfl rfl ?_
  refine ms_stat_i (idx := 182) (cy := yX_isTable) (n := 1) (as := [.inl x1]) (rest := []) (p' := 4) (by decide +kernel) rfl rfl rfl rfl rfl (fun f1 v2 => ?_)
  refine ms_if_ne (off := 7) (t := 11) (p' := 7) (by decide +kernel) rfl (fun hc => ?_) (fun hc => ?_)
  · refine ms_aload_n (k := 0) (p' := 12) (by decide +kernel) rfl rfl ?_
    refine ms_aload_n (k := 0) (p' := 13) (by decide +kernel) rfl rfl ?_
    refine ms_getr (idx := 25) (ci := 8) (k := 2) (q := 520) (p' := 16) (by decide +kernel) rfl (k_2 hw) (r_2_2 hw) (by decide) ?_
    refine ms_iload_n (k := 1) (p' := 17) (by decide +kernel) rfl rfl ?_
    refine ms_aald (p' := 18) (by decide +kernel) rfl (k_31 hw) (rz31 hw) (fun hj3 => ?_)
    refine ms_iload_n (k := 2) (p' := 19) (by decide +kernel) rfl rfl ?_
    refine ms_iload_n (k := 3) (p' := 20) (by decide +kernel) rfl rfl ?_
    refine ms_iload (k := 4) (p' := 22) (by decide +kernel) rfl rfl ?_
    refine ms_virt_i (idx := 269) (cy := yX_boundOf) (n := 4) (a := 2) (as := [.inr (.inl (215 + 2 * x1.toNat)), .inl x2, .inl x3, .inl x4]) (rest := []) (p' := 25) (by decide +kernel) rfl rfl rfl rfl (k_2 hw) rfl (fun f4 v5 => ?_)
    exact ms_iret (by decide +kernel)
  · refine ms_sipush (n := (-2000)) (v := (-2000)) (p' := 10) (by decide +kernel) rfl ?_
    exact ms_iret (by decide +kernel)
theorem c_X_empty {sw : Bool} {w : mj_W} (hw : wk sw w) (f : mj_F) (x1 : Int)  : mj_call yX_empty w f [.inr (.inl 2), .inl x1] = mj_bi (mj_call yX_isTable w f [.inl x1]) (fun f1 v2 => if ¬ v2 = 0 then mj_gd (0 ≤ x1 ∧ x1 < ((4 : Nat) : Int)) (if (f1 (215 + 2 * x1.toNat) 2) = 0 then some (w, f1, some (.inl 0)) else some (w, f1, some (.inl 1))) else some (w, f1, some (.inl (-1)))) := by
  show mj_run yX_empty w f 0 [.inr (.inl 2), .inl x1] [] = _
  refine ms_iload_n (k := 1) (p' := 1) (by decide +kernel) rfl rfl ?_
  refine ms_stat_i (idx := 182) (cy := yX_isTable) (n := 1) (as := [.inl x1]) (rest := []) (p' := 4) (by decide +kernel) rfl rfl rfl rfl rfl (fun f1 v2 => ?_)
  refine ms_if_ne (off := 5) (t := 9) (p' := 7) (by decide +kernel) rfl (fun hc => ?_) (fun hc => ?_)
  · refine ms_aload_n (k := 0) (p' := 10) (by decide +kernel) rfl rfl ?_
    refine ms_getr (idx := 25) (ci := 8) (k := 2) (q := 520) (p' := 13) (by decide +kernel) rfl (k_2 hw) (r_2_2 hw) (by decide) ?_
    refine ms_iload_n (k := 1) (p' := 14) (by decide +kernel) rfl rfl ?_
    refine ms_aald (p' := 15) (by decide +kernel) rfl (k_31 hw) (rz31 hw) (fun hj3 => ?_)
    refine ms_geti (idx := 273) (ci := 7) (k := 2) (q := 365) (p' := 18) (by decide +kernel) rfl (zn_k (zz31 hj3) hw) ?_
    refine ms_if_eq (off := 7) (t := 25) (p' := 21) (by decide +kernel) rfl (fun hc => ?_) (fun hc => ?_)
    · refine ms_iconst (n := 0) (v := 0) (p' := 26) (by decide +kernel) rfl ?_
      exact ms_iret (by decide +kernel)
    · refine ms_iconst (n := 1) (v := 1) (p' := 22) (by decide +kernel) rfl ?_
      refine ms_goto (off := 4) (p' := 26) (by decide +kernel) ?_
      exact ms_iret (by decide +kernel)
  · refine ms_iconst (n := (-1)) (v := (-1)) (p' := 8) (by decide +kernel) rfl ?_
    exact ms_iret (by decide +kernel)
theorem c_X_within {sw : Bool} {w : mj_W} (hw : wk sw w) (f : mj_F) (x1 : Int) (x2 : Int)  : mj_call yX_within w f [.inr (.inl 2), .inl x1, .inl x2] = mj_bi (mj_call yX_isTable w f [.inl x1]) (fun f1 v2 => if v2 = 0 then some (w, f1, some (.inl (-1))) else mj_bi (mj_call yX_isTable w f1 [.inl x2]) (fun f3 v4 => if ¬ v4 = 0 then mj_gd (0 ≤ x1 ∧ x1 < ((4 : Nat) : Int)) (mj_gd (0 ≤ x2 ∧ x2 < ((4 : Nat) : Int)) (mj_bi (mj_call yZ_covers w f3 [.inr (.inl (215 + 2 * x1.toNat)), .inr (.inl (215 + 2 * x2.toNat))]) (fun f7 v8 => if v8 = 0 then some (w, f7, some (.inl 0)) else some (w, f7, some (.inl 1))))) else some (w, f3, some (.inl (-1))))) := by
  show mj_run yX_within w f 0 [.inr (.inl 2), .inl x1, .inl x2] [] = _
  refine ms_iload_n (k := 1) (p' := 1) (by decide +kernel) rfl rfl ?_
  refine ms_stat_i (idx := 182) (cy := yX_isTable) (n := 1) (as := [.inl x1]) (rest := []) (p' := 4) (by decide +kernel) rfl rfl rfl rfl rfl (fun f1 v2 => ?_)
  refine ms_if_eq (off := 10) (t := 14) (p' := 7) (by decide +kernel) rfl (fun hc => ?_) (fun hc => ?_)
  · refine ms_iconst (n := (-1)) (v := (-1)) (p' := 15) (by decide +kernel) rfl ?_
    exact ms_iret (by decide +kernel)
  · refine ms_iload_n (k := 2) (p' := 8) (by decide +kernel) rfl rfl ?_
    refine ms_stat_i (idx := 182) (cy := yX_isTable) (n := 1) (as := [.inl x2]) (rest := []) (p' := 11) (by decide +kernel) rfl rfl rfl rfl rfl (fun f3 v4 => ?_)
    refine ms_if_ne (off := 5) (t := 16) (p' := 14) (by decide +kernel) rfl (fun hc => ?_) (fun hc => ?_)
    · refine ms_aload_n (k := 0) (p' := 17) (by decide +kernel) rfl rfl ?_
      refine ms_getr (idx := 25) (ci := 8) (k := 2) (q := 520) (p' := 20) (by decide +kernel) rfl (k_2 hw) (r_2_2 hw) (by decide) ?_
      refine ms_iload_n (k := 1) (p' := 21) (by decide +kernel) rfl rfl ?_
      refine ms_aald (p' := 22) (by decide +kernel) rfl (k_31 hw) (rz31 hw) (fun hj5 => ?_)
      refine ms_aload_n (k := 0) (p' := 23) (by decide +kernel) rfl rfl ?_
      refine ms_getr (idx := 25) (ci := 8) (k := 2) (q := 520) (p' := 26) (by decide +kernel) rfl (k_2 hw) (r_2_2 hw) (by decide) ?_
      refine ms_iload_n (k := 2) (p' := 27) (by decide +kernel) rfl rfl ?_
      refine ms_aald (p' := 28) (by decide +kernel) rfl (k_31 hw) (rz31 hw) (fun hj6 => ?_)
      refine ms_virt_i (idx := 276) (cy := yZ_covers) (n := 1) (a := (215 + 2 * x1.toNat)) (as := [.inr (.inl (215 + 2 * x2.toNat))]) (rest := []) (p' := 31) (by decide +kernel) rfl rfl rfl rfl (zn_k (zz31 hj5) hw) rfl (fun f7 v8 => ?_)
      refine ms_if_eq (off := 7) (t := 38) (p' := 34) (by decide +kernel) rfl (fun hc => ?_) (fun hc => ?_)
      · refine ms_iconst (n := 0) (v := 0) (p' := 39) (by decide +kernel) rfl ?_
        exact ms_iret (by decide +kernel)
      · refine ms_iconst (n := 1) (v := 1) (p' := 35) (by decide +kernel) rfl ?_
        refine ms_goto (off := 4) (p' := 39) (by decide +kernel) ?_
        exact ms_iret (by decide +kernel)
    · refine ms_iconst (n := (-1)) (v := (-1)) (p' := 15) (by decide +kernel) rfl ?_
      exact ms_iret (by decide +kernel)
theorem c_X_has {sw : Bool} {w : mj_W} (hw : wk sw w) (f : mj_F) (x1 : Int) (x2 : Int) (x3 : Int) (x4 : Int) (x5 : Int)  : mj_call yX_has w f [.inr (.inl 2), .inl x1, .inl x2, .inl x3, .inl x4, .inl x5] = mj_bi (mj_call yX_isTable w f [.inl x1]) (fun f1 v2 => if v2 = 0 then some (w, f1, some (.inl (-1))) else if x2 < 0 then some (w, f1, some (.inl (-1))) else if x3 < 0 then some (w, f1, some (.inl (-1))) else if x4 < 0 then some (w, f1, some (.inl (-1))) else if 0 ≤ x5 then mj_gd (0 ≤ x1 ∧ x1 < ((4 : Nat) : Int)) (mj_bi (mj_call yZ_holdsHalves w (mj_u (mj_u (mj_u (mj_u (mj_u f1 36 (0 : Int).toNat 0) 36 (1 : Int).toNat x2) 36 (2 : Int).toNat x3) 36 (3 : Int).toNat x4) 36 (4 : Int).toNat x5) [.inr (.inl (215 + 2 * x1.toNat)), .inr (.inl 36)]) (fun f9 v10 => if v10 = 0 then some (w, f9, some (.inl 0)) else some (w, f9, some (.inl 1)))) else some (w, f1, some (.inl (-1)))) := by
  show mj_run yX_has w f 0 [.inr (.inl 2), .inl x1, .inl x2, .inl x3, .inl x4, .inl x5] [] = _
  refine ms_iload_n (k := 1) (p' := 1) (by decide +kernel) rfl rfl ?_
  refine ms_stat_i (idx := 182) (cy := yX_isTable) (n := 1) (as := [.inl x1]) (rest := []) (p' := 4) (by decide +kernel) rfl rfl rfl rfl rfl (fun f1 v2 => ?_)
  refine ms_if_eq (off := 21) (t := 25) (p' := 7) (by decide +kernel) rfl (fun hc => ?_) (fun hc => ?_)
  · refine ms_iconst (n := (-1)) (v := (-1)) (p' := 26) (by decide +kernel) rfl ?_
    exact ms_iret (by decide +kernel)
  · refine ms_iload_n (k := 2) (p' := 8) (by decide +kernel) rfl rfl ?_
    refine ms_if_lt (off := 17) (t := 25) (p' := 11) (by decide +kernel) rfl (fun hc => ?_) (fun hc => ?_)
    · refine ms_iconst (n := (-1)) (v := (-1)) (p' := 26) (by decide +kernel) rfl ?_
      exact ms_iret (by decide +kernel)
    · refine ms_iload_n (k := 3) (p' := 12) (by decide +kernel) rfl rfl ?_
      refine ms_if_lt (off := 13) (t := 25) (p' := 15) (by decide +kernel) rfl (fun hc => ?_) (fun hc => ?_)
      · refine ms_iconst (n := (-1)) (v := (-1)) (p' := 26) (by decide +kernel) rfl ?_
        exact ms_iret (by decide +kernel)
      · refine ms_iload (k := 4) (p' := 17) (by decide +kernel) rfl rfl ?_
        refine ms_if_lt (off := 8) (t := 25) (p' := 20) (by decide +kernel) rfl (fun hc => ?_) (fun hc => ?_)
        · refine ms_iconst (n := (-1)) (v := (-1)) (p' := 26) (by decide +kernel) rfl ?_
          exact ms_iret (by decide +kernel)
        · refine ms_iload (k := 5) (p' := 22) (by decide +kernel) rfl rfl ?_
          refine ms_if_ge (off := 5) (t := 27) (p' := 25) (by decide +kernel) rfl (fun hc => ?_) (fun hc => ?_)
          · refine ms_aload_n (k := 0) (p' := 28) (by decide +kernel) rfl rfl ?_
            refine ms_getr (idx := 37) (ci := 8) (k := 5) (q := 523) (p' := 31) (by decide +kernel) rfl (k_2 hw) (r_2_5 hw) (by decide) ?_
            refine ms_iconst (n := 0) (v := 0) (p' := 32) (by decide +kernel) rfl ?_
            refine ms_iconst (n := 0) (v := 0) (p' := 33) (by decide +kernel) rfl ?_
            refine Eq.trans (ms_iast (p' := 34) (by decide +kernel) rfl (k_36 hw) (fun hj3 => ?_)) (mj_gd_pos (by decide) _)
            refine ms_aload_n (k := 0) (p' := 35) (by decide +kernel) rfl rfl ?_
            refine ms_getr (idx := 37) (ci := 8) (k := 5) (q := 523) (p' := 38) (by decide +kernel) rfl (k_2 hw) (r_2_5 hw) (by decide) ?_
            refine ms_iconst (n := 1) (v := 1) (p' := 39) (by decide +kernel) rfl ?_
            refine ms_iload_n (k := 2) (p' := 40) (by decide +kernel) rfl rfl ?_
            refine Eq.trans (ms_iast (p' := 41) (by decide +kernel) rfl (k_36 hw) (fun hj4 => ?_)) (mj_gd_pos (by decide) _)
            refine ms_aload_n (k := 0) (p' := 42) (by decide +kernel) rfl rfl ?_
            refine ms_getr (idx := 37) (ci := 8) (k := 5) (q := 523) (p' := 45) (by decide +kernel) rfl (k_2 hw) (r_2_5 hw) (by decide) ?_
            refine ms_iconst (n := 2) (v := 2) (p' := 46) (by decide +kernel) rfl ?_
            refine ms_iload_n (k := 3) (p' := 47) (by decide +kernel) rfl rfl ?_
            refine Eq.trans (ms_iast (p' := 48) (by decide +kernel) rfl (k_36 hw) (fun hj5 => ?_)) (mj_gd_pos (by decide) _)
            refine ms_aload_n (k := 0) (p' := 49) (by decide +kernel) rfl rfl ?_
            refine ms_getr (idx := 37) (ci := 8) (k := 5) (q := 523) (p' := 52) (by decide +kernel) rfl (k_2 hw) (r_2_5 hw) (by decide) ?_
            refine ms_iconst (n := 3) (v := 3) (p' := 53) (by decide +kernel) rfl ?_
            refine ms_iload (k := 4) (p' := 55) (by decide +kernel) rfl rfl ?_
            refine Eq.trans (ms_iast (p' := 56) (by decide +kernel) rfl (k_36 hw) (fun hj6 => ?_)) (mj_gd_pos (by decide) _)
            refine ms_aload_n (k := 0) (p' := 57) (by decide +kernel) rfl rfl ?_
            refine ms_getr (idx := 37) (ci := 8) (k := 5) (q := 523) (p' := 60) (by decide +kernel) rfl (k_2 hw) (r_2_5 hw) (by decide) ?_
            refine ms_iconst (n := 4) (v := 4) (p' := 61) (by decide +kernel) rfl ?_
            refine ms_iload (k := 5) (p' := 63) (by decide +kernel) rfl rfl ?_
            refine Eq.trans (ms_iast (p' := 64) (by decide +kernel) rfl (k_36 hw) (fun hj7 => ?_)) (mj_gd_pos (by decide) _)
            refine ms_aload_n (k := 0) (p' := 65) (by decide +kernel) rfl rfl ?_
            refine ms_getr (idx := 25) (ci := 8) (k := 2) (q := 520) (p' := 68) (by decide +kernel) rfl (k_2 hw) (r_2_2 hw) (by decide) ?_
            refine ms_iload_n (k := 1) (p' := 69) (by decide +kernel) rfl rfl ?_
            refine ms_aald (p' := 70) (by decide +kernel) rfl (k_31 hw) (rz31 hw) (fun hj8 => ?_)
            refine ms_aload_n (k := 0) (p' := 71) (by decide +kernel) rfl rfl ?_
            refine ms_getr (idx := 37) (ci := 8) (k := 5) (q := 523) (p' := 74) (by decide +kernel) rfl (k_2 hw) (r_2_5 hw) (by decide) ?_
            refine ms_virt_i (idx := 280) (cy := yZ_holdsHalves) (n := 1) (a := (215 + 2 * x1.toNat)) (as := [.inr (.inl 36)]) (rest := []) (p' := 77) (by decide +kernel) rfl rfl rfl rfl (zn_k (zz31 hj8) hw) rfl (fun f9 v10 => ?_)
            refine ms_if_eq (off := 7) (t := 84) (p' := 80) (by decide +kernel) rfl (fun hc => ?_) (fun hc => ?_)
            · refine ms_iconst (n := 0) (v := 0) (p' := 85) (by decide +kernel) rfl ?_
              exact ms_iret (by decide +kernel)
            · refine ms_iconst (n := 1) (v := 1) (p' := 81) (by decide +kernel) rfl ?_
              refine ms_goto (off := 4) (p' := 85) (by decide +kernel) ?_
              exact ms_iret (by decide +kernel)
          · refine ms_iconst (n := (-1)) (v := (-1)) (p' := 26) (by decide +kernel) rfl ?_
            exact ms_iret (by decide +kernel)
theorem c_X_pairs {sw : Bool} {w : mj_W} (hw : wk sw w) (f : mj_F) (x1 : Int) (x2 : Int)  : mj_call yX_pairs w f [.inr (.inl 2), .inl x1, .inl x2] = mj_bi (mj_call yX_isTable w f [.inl x1]) (fun f1 v2 => if v2 = 0 then some (w, f1, some (.inl (-1))) else if x2 < 0 then some (w, f1, some (.inl (-1))) else if x2 ≤ 2 then mj_gd (0 ≤ x1 ∧ x1 < ((4 : Nat) : Int)) (if (f1 (215 + 2 * x1.toNat) 2) = 0 then mj_run yX_pairs w f1 41 [.inr (.inl 2), .inl x1, .inl x2, .inr (.inl (215 + 2 * x1.toNat)), .inl 0, .inl 0, .inr (.inr (.inr 0))] [] else some (w, f1, some (.inl (-2)))) else some (w, f1, some (.inl (-1)))) := by
  show mj_run yX_pairs w f 0 [.inr (.inl 2), .inl x1, .inl x2, .inr (.inr (.inr 0)), .inr (.inr (.inr 0)), .inr (.inr (.inr 0)), .inr (.inr (.inr 0))] [] = _
  refine ms_iload_n (k := 1) (p' := 1) (by decide +kernel) rfl rfl ?_
  refine ms_stat_i (idx := 182) (cy := yX_isTable) (n := 1) (as := [.inl x1]) (rest := []) (p' := 4) (by decide +kernel) rfl rfl rfl rfl rfl (fun f1 v2 => ?_)
  refine ms_if_eq (off := 12) (t := 16) (p' := 7) (by decide +kernel) rfl (fun hc => ?_) (fun hc => ?_)
  · refine ms_iconst (n := (-1)) (v := (-1)) (p' := 17) (by decide +kernel) rfl ?_
    exact ms_iret (by decide +kernel)
  · refine ms_iload_n (k := 2) (p' := 8) (by decide +kernel) rfl rfl ?_
    refine ms_if_lt (off := 8) (t := 16) (p' := 11) (by decide +kernel) rfl (fun hc => ?_) (fun hc => ?_)
    · refine ms_iconst (n := (-1)) (v := (-1)) (p' := 17) (by decide +kernel) rfl ?_
      exact ms_iret (by decide +kernel)
    · refine ms_iload_n (k := 2) (p' := 12) (by decide +kernel) rfl rfl ?_
      refine ms_iconst (n := 2) (v := 2) (p' := 13) (by decide +kernel) rfl ?_
      refine ms_icmp_le (off := 5) (t := 18) (p' := 16) (by decide +kernel) rfl (fun hc => ?_) (fun hc => ?_)
      · refine ms_aload_n (k := 0) (p' := 19) (by decide +kernel) rfl rfl ?_
        refine ms_getr (idx := 25) (ci := 8) (k := 2) (q := 520) (p' := 22) (by decide +kernel) rfl (k_2 hw) (r_2_2 hw) (by decide) ?_
        refine ms_iload_n (k := 1) (p' := 23) (by decide +kernel) rfl rfl ?_
        refine ms_aald (p' := 24) (by decide +kernel) rfl (k_31 hw) (rz31 hw) (fun hj3 => ?_)
        refine ms_astore_n (k := 3) (ls' := [.inr (.inl 2), .inl x1, .inl x2, .inr (.inl (215 + 2 * x1.toNat)), .inr (.inr (.inr 0)), .inr (.inr (.inr 0)), .inr (.inr (.inr 0))]) (p' := 25) (by decide +kernel) rfl (Nat.le_of_ble_eq_true rfl) rfl ?_
        refine ms_aload_n (k := 3) (p' := 26) (by decide +kernel) rfl rfl ?_
        refine ms_geti (idx := 273) (ci := 7) (k := 2) (q := 365) (p' := 29) (by decide +kernel) rfl (zn_k (zz31 hj3) hw) ?_
        refine ms_if_eq (off := 6) (t := 35) (p' := 32) (by decide +kernel) rfl (fun hc => ?_) (fun hc => ?_)
        · refine ms_iconst (n := 0) (v := 0) (p' := 36) (by decide +kernel) rfl ?_
          refine ms_istore (k := 4) (ls' := [.inr (.inl 2), .inl x1, .inl x2, .inr (.inl (215 + 2 * x1.toNat)), .inl 0, .inr (.inr (.inr 0)), .inr (.inr (.inr 0))]) (p' := 38) (by decide +kernel) rfl (Nat.le_of_ble_eq_true rfl) rfl ?_
          refine ms_iconst (n := 0) (v := 0) (p' := 39) (by decide +kernel) rfl ?_
          refine ms_istore (k := 5) (ls' := [.inr (.inl 2), .inl x1, .inl x2, .inr (.inl (215 + 2 * x1.toNat)), .inl 0, .inl 0, .inr (.inr (.inr 0))]) (p' := 41) (by decide +kernel) rfl (Nat.le_of_ble_eq_true rfl) rfl ?_
          rfl
        · refine ms_bipush (n := (-2)) (v := (-2)) (p' := 34) (by decide +kernel) rfl ?_
          exact ms_iret (by decide +kernel)
      · refine ms_iconst (n := (-1)) (v := (-1)) (p' := 17) (by decide +kernel) rfl ?_
        exact ms_iret (by decide +kernel)
theorem l_X_pairs_41 {sw : Bool} {w : mj_W} (hw : wk sw w) (f : mj_F) (x1 : Int) (x2 : Int) (z3_ : Nat) (x4 : Int) (x5 : Int) (u6 : mj_V) (hz3_ : zn z3_ = true) : mj_run yX_pairs w f 41 [.inr (.inl 2), .inl x1, .inl x2, .inr (.inl z3_), .inl x4, .inl x5, u6] [] = if (f z3_ 1) ≤ x5 then some (w, f, some (.inl x4)) else mj_run yX_pairs w f 53 [.inr (.inl 2), .inl x1, .inl x2, .inr (.inl z3_), .inl x4, .inl x5, .inl 0] [] := by
  refine ms_iload (k := 5) (p' := 43) (by decide +kernel) rfl rfl ?_
  refine ms_aload_n (k := 3) (p' := 44) (by decide +kernel) rfl rfl ?_
  refine ms_geti (idx := 284) (ci := 7) (k := 1) (q := 361) (p' := 47) (by decide +kernel) rfl (zn_k hz3_ hw) ?_
  refine ms_icmp_ge (off := 49) (t := 96) (p' := 50) (by decide +kernel) rfl (fun hc => ?_) (fun hc => ?_)
  · refine ms_iload (k := 4) (p' := 98) (by decide +kernel) rfl rfl ?_
    exact ms_iret (by decide +kernel)
  · refine ms_iconst (n := 0) (v := 0) (p' := 51) (by decide +kernel) rfl ?_
    refine ms_istore (k := 6) (ls' := [.inr (.inl 2), .inl x1, .inl x2, .inr (.inl z3_), .inl x4, .inl x5, .inl 0]) (p' := 53) (by decide +kernel) rfl (Nat.le_of_ble_eq_true rfl) rfl ?_
    rfl
theorem l_X_pairs_53 {sw : Bool} {w : mj_W} (hw : wk sw w) (f : mj_F) (x1 : Int) (x2 : Int) (z3_ : Nat) (x4 : Int) (x5 : Int) (x6 : Int) (hz3_ : zn z3_ = true) : mj_run yX_pairs w f 53 [.inr (.inl 2), .inl x1, .inl x2, .inr (.inl z3_), .inl x4, .inl x5, .inl x6] [] = if (f z3_ 1) ≤ x6 then mj_run yX_pairs w f 41 [.inr (.inl 2), .inl x1, .inl x2, .inr (.inl z3_), .inl x4, .inl (mj_w (x5 + 1)), .inl x6] [] else if x5 = x6 then mj_run yX_pairs w f 53 [.inr (.inl 2), .inl x1, .inl x2, .inr (.inl z3_), .inl x4, .inl x5, .inl (mj_w (x6 + 1))] [] else mj_bi (mj_call yZ_countsAsPair w f [.inr (.inl z3_), .inl x5, .inl x6, .inl x2]) (fun f4 v5 => if v5 = 0 then mj_run yX_pairs w f4 53 [.inr (.inl 2), .inl x1, .inl x2, .inr (.inl z3_), .inl x4, .inl x5, .inl (mj_w (x6 + 1))] [] else mj_run yX_pairs w f4 53 [.inr (.inl 2), .inl x1, .inl x2, .inr (.inl z3_), .inl (mj_w (x4 + 1)), .inl x5, .inl (mj_w (x6 + 1))] []) := by
  refine ms_iload (k := 6) (p' := 55) (by decide +kernel) rfl rfl ?_
  refine ms_aload_n (k := 3) (p' := 56) (by decide +kernel) rfl rfl ?_
  refine ms_geti (idx := 284) (ci := 7) (k := 1) (q := 361) (p' := 59) (by decide +kernel) rfl (zn_k hz3_ hw) ?_
  refine ms_icmp_ge (off := 31) (t := 90) (p' := 62) (by decide +kernel) rfl (fun hc => ?_) (fun hc => ?_)
  · refine ms_iinc (k := 5) (n := 1) (ls' := [.inr (.inl 2), .inl x1, .inl x2, .inr (.inl z3_), .inl x4, .inl (mj_w (x5 + 1)), .inl x6]) (p' := 93) (by decide +kernel) rfl rfl rfl ?_
    refine ms_goto (off := (-52)) (p' := 41) (by decide +kernel) ?_
    rfl
  · refine ms_iload (k := 5) (p' := 64) (by decide +kernel) rfl rfl ?_
    refine ms_iload (k := 6) (p' := 66) (by decide +kernel) rfl rfl ?_
    refine ms_icmp_eq (off := 18) (t := 84) (p' := 69) (by decide +kernel) rfl (fun hc => ?_) (fun hc => ?_)
    · refine ms_iinc (k := 6) (n := 1) (ls' := [.inr (.inl 2), .inl x1, .inl x2, .inr (.inl z3_), .inl x4, .inl x5, .inl (mj_w (x6 + 1))]) (p' := 87) (by decide +kernel) rfl rfl rfl ?_
      refine ms_goto (off := (-34)) (p' := 53) (by decide +kernel) ?_
      rfl
    · refine ms_aload_n (k := 3) (p' := 70) (by decide +kernel) rfl rfl ?_
      refine ms_iload (k := 5) (p' := 72) (by decide +kernel) rfl rfl ?_
      refine ms_iload (k := 6) (p' := 74) (by decide +kernel) rfl rfl ?_
      refine ms_iload_n (k := 2) (p' := 75) (by decide +kernel) rfl rfl ?_
      refine ms_virt_i (idx := 287) (cy := yZ_countsAsPair) (n := 3) (a := z3_) (as := [.inl x5, .inl x6, .inl x2]) (rest := []) (p' := 78) (by decide +kernel) rfl rfl rfl rfl (zn_k hz3_ hw) rfl (fun f4 v5 => ?_)
      refine ms_if_eq (off := 6) (t := 84) (p' := 81) (by decide +kernel) rfl (fun hc => ?_) (fun hc => ?_)
      · refine ms_iinc (k := 6) (n := 1) (ls' := [.inr (.inl 2), .inl x1, .inl x2, .inr (.inl z3_), .inl x4, .inl x5, .inl (mj_w (x6 + 1))]) (p' := 87) (by decide +kernel) rfl rfl rfl ?_
        refine ms_goto (off := (-34)) (p' := 53) (by decide +kernel) ?_
        rfl
      · refine ms_iinc (k := 4) (n := 1) (ls' := [.inr (.inl 2), .inl x1, .inl x2, .inr (.inl z3_), .inl (mj_w (x4 + 1)), .inl x5, .inl x6]) (p' := 84) (by decide +kernel) rfl rfl rfl ?_
        refine ms_iinc (k := 6) (n := 1) (ls' := [.inr (.inl 2), .inl x1, .inl x2, .inr (.inl z3_), .inl (mj_w (x4 + 1)), .inl x5, .inl (mj_w (x6 + 1))]) (p' := 87) (by decide +kernel) rfl rfl rfl ?_
        refine ms_goto (off := (-34)) (p' := 53) (by decide +kernel) ?_
        rfl
theorem c_X_pointsFrom0 {sw : Bool} {w : mj_W} (hw : wk sw w) (f : mj_F) (z1 : Nat) (r1 nr1 : Nat) (x2 : Int) (hz1 : zn z1 = true) (hr1 : w.1 r1 = (100, nr1)) : mj_call yX_pointsFrom0 w f [.inr (.inl z1), .inr (.inl r1), .inl x2] = if x2 < (f z1 1) then mj_run yX_pointsFrom0 w f 19 [.inr (.inl z1), .inr (.inl r1), .inl x2, .inl 0, .inl 9, .inl 0, .inr (.inr (.inr 0))] [] else some (w, f, some (.inl 1)) := by
  show mj_run yX_pointsFrom0 w f 0 [.inr (.inl z1), .inr (.inl r1), .inl x2, .inr (.inr (.inr 0)), .inr (.inr (.inr 0)), .inr (.inr (.inr 0)), .inr (.inr (.inr 0))] [] = _
  refine ms_iload_n (k := 2) (p' := 1) (by decide +kernel) rfl rfl ?_
  refine ms_aload_n (k := 0) (p' := 2) (by decide +kernel) rfl rfl ?_
  refine ms_geti (idx := 284) (ci := 7) (k := 1) (q := 361) (p' := 5) (by decide +kernel) rfl (zn_k hz1 hw) ?_
  refine ms_icmp_lt (off := 5) (t := 10) (p' := 8) (by decide +kernel) rfl (fun hc => ?_) (fun hc => ?_)
  · refine ms_iconst (n := 0) (v := 0) (p' := 11) (by decide +kernel) rfl ?_
    refine ms_istore_n (k := 3) (ls' := [.inr (.inl z1), .inr (.inl r1), .inl x2, .inl 0, .inr (.inr (.inr 0)), .inr (.inr (.inr 0)), .inr (.inr (.inr 0))]) (p' := 12) (by decide +kernel) rfl (Nat.le_of_ble_eq_true rfl) rfl ?_
    refine ms_bipush (n := 9) (v := 9) (p' := 14) (by decide +kernel) rfl ?_
    refine ms_istore (k := 4) (ls' := [.inr (.inl z1), .inr (.inl r1), .inl x2, .inl 0, .inl 9, .inr (.inr (.inr 0)), .inr (.inr (.inr 0))]) (p' := 16) (by decide +kernel) rfl (Nat.le_of_ble_eq_true rfl) rfl ?_
    refine ms_iconst (n := 0) (v := 0) (p' := 17) (by decide +kernel) rfl ?_
    refine ms_istore (k := 5) (ls' := [.inr (.inl z1), .inr (.inl r1), .inl x2, .inl 0, .inl 9, .inl 0, .inr (.inr (.inr 0))]) (p' := 19) (by decide +kernel) rfl (Nat.le_of_ble_eq_true rfl) rfl ?_
    rfl
  · refine ms_iconst (n := 1) (v := 1) (p' := 9) (by decide +kernel) rfl ?_
    exact ms_iret (by decide +kernel)
theorem l_X_pointsFrom0_19 {sw : Bool} {w : mj_W} (hw : wk sw w) (f : mj_F) (z1 : Nat) (r1 nr1 : Nat) (x2 : Int) (x3 : Int) (x4 : Int) (x5 : Int) (hz1 : zn z1 = true) (hr1 : w.1 r1 = (100, nr1)) : mj_run yX_pointsFrom0 w f 19 [.inr (.inl z1), .inr (.inl r1), .inl x2, .inl x3, .inl x4, .inl x5, .inr (.inr (.inr 0))] [] = if x2 ≤ x5 then if ¬ x2 = (mj_w ((f z1 1) - 1)) then mj_run yX_pointsFrom0 w f 100 [.inr (.inl z1), .inr (.inl r1), .inl x2, .inl x3, .inl x4, .inl 0, .inl x3] [] else some (w, f, some (.inl (if 0 < (mj_w ((mj_w (x4 - x3)) + 1)) then (mj_w ((mj_w (x4 - x3)) + 1)) else 0))) else mj_gd (0 ≤ x5 ∧ x5 < ((nr1 : Nat) : Int)) (mj_bi (mj_call yZ_cell w f [.inr (.inl z1), .inl x5, .inl x2]) (fun f2 v3 => mj_bi (mj_call yX_numberOf w f2 [.inl v3]) (fun f4 v5 => mj_gd (0 ≤ x5 ∧ x5 < ((nr1 : Nat) : Int)) (mj_bi (mj_call yZ_cell w f4 [.inr (.inl z1), .inl x2, .inl x5]) (fun f7 v8 => mj_bi (mj_call yX_numberOf w f7 [.inl v8]) (fun f9 v10 => mj_run yX_pointsFrom0 w f9 19 [.inr (.inl z1), .inr (.inl r1), .inl x2, .inl (if x3 < (mj_w ((f r1 x5.toNat) - v5)) then (mj_w ((f r1 x5.toNat) - v5)) else x3), .inl (if (mj_w ((f4 r1 x5.toNat) + v10)) < x4 then (mj_w ((f4 r1 x5.toNat) + v10)) else x4), .inl (mj_w (x5 + 1)), .inr (.inr (.inr 0))] [])))))) := by
  refine ms_iload (k := 5) (p' := 21) (by decide +kernel) rfl rfl ?_
  refine ms_iload_n (k := 2) (p' := 22) (by decide +kernel) rfl rfl ?_
  refine ms_icmp_ge (off := 51) (t := 73) (p' := 25) (by decide +kernel) rfl (fun hc => ?_) (fun hc => ?_)
  · refine ms_iload_n (k := 2) (p' := 74) (by decide +kernel) rfl rfl ?_
    refine ms_aload_n (k := 0) (p' := 75) (by decide +kernel) rfl rfl ?_
    refine ms_geti (idx := 284) (ci := 7) (k := 1) (q := 361) (p' := 78) (by decide +kernel) rfl (zn_k hz1 hw) ?_
    refine ms_iconst (n := 1) (v := 1) (p' := 79) (by decide +kernel) rfl ?_
    refine ms_isub (p' := 80) (by decide +kernel) rfl ?_
    refine ms_icmp_ne (off := 14) (t := 94) (p' := 83) (by decide +kernel) rfl (fun hc => ?_) (fun hc => ?_)
    · refine ms_iconst (n := 0) (v := 0) (p' := 95) (by decide +kernel) rfl ?_
      refine ms_istore (k := 5) (ls' := [.inr (.inl z1), .inr (.inl r1), .inl x2, .inl x3, .inl x4, .inl 0, .inr (.inr (.inr 0))]) (p' := 97) (by decide +kernel) rfl (Nat.le_of_ble_eq_true rfl) rfl ?_
      refine ms_iload_n (k := 3) (p' := 98) (by decide +kernel) rfl rfl ?_
      refine ms_istore (k := 6) (ls' := [.inr (.inl z1), .inr (.inl r1), .inl x2, .inl x3, .inl x4, .inl 0, .inl x3]) (p' := 100) (by decide +kernel) rfl (Nat.le_of_ble_eq_true rfl) rfl ?_
      rfl
    · refine ms_iconst (n := 0) (v := 0) (p' := 84) (by decide +kernel) rfl ?_
      refine ms_iload (k := 4) (p' := 86) (by decide +kernel) rfl rfl ?_
      refine ms_iload_n (k := 3) (p' := 87) (by decide +kernel) rfl rfl ?_
      refine ms_isub (p' := 88) (by decide +kernel) rfl ?_
      refine ms_iconst (n := 1) (v := 1) (p' := 89) (by decide +kernel) rfl ?_
      refine ms_iadd (p' := 90) (by decide +kernel) rfl ?_
      refine ms_math2 (idx := 441) (k := 12) (x := 0) (q := 1026) (v := (if 0 < (mj_w ((mj_w (x4 - x3)) + 1)) then (mj_w ((mj_w (x4 - x3)) + 1)) else 0)) (p' := 93) (by decide +kernel) (Or.inl ⟨rfl, rfl⟩) rfl rfl ?_
      exact ms_iret (by decide +kernel)
  · refine ms_iload_n (k := 3) (p' := 26) (by decide +kernel) rfl rfl ?_
    refine ms_aload_n (k := 1) (p' := 27) (by decide +kernel) rfl rfl ?_
    refine ms_iload (k := 5) (p' := 29) (by decide +kernel) rfl rfl ?_
    refine ms_iald (p' := 30) (by decide +kernel) rfl hr1 (fun hj1 => ?_)
    refine ms_aload_n (k := 0) (p' := 31) (by decide +kernel) rfl rfl ?_
    refine ms_iload (k := 5) (p' := 33) (by decide +kernel) rfl rfl ?_
    refine ms_iload_n (k := 2) (p' := 34) (by decide +kernel) rfl rfl ?_
    refine ms_virt_i (idx := 308) (cy := yZ_cell) (n := 2) (a := z1) (as := [.inl x5, .inl x2]) (rest := [.inl (f r1 x5.toNat), .inl x3]) (p' := 37) (by decide +kernel) rfl rfl rfl rfl (zn_k hz1 hw) rfl (fun f2 v3 => ?_)
    refine ms_stat_i (idx := 438) (cy := yX_numberOf) (n := 1) (as := [.inl v3]) (rest := [.inl (f r1 x5.toNat), .inl x3]) (p' := 40) (by decide +kernel) rfl rfl rfl rfl rfl (fun f4 v5 => ?_)
    refine ms_isub (p' := 41) (by decide +kernel) rfl ?_
    refine ms_math2 (idx := 441) (k := 12) (x := 0) (q := 1026) (v := (if x3 < (mj_w ((f r1 x5.toNat) - v5)) then (mj_w ((f r1 x5.toNat) - v5)) else x3)) (p' := 44) (by decide +kernel) (Or.inl ⟨rfl, rfl⟩) rfl rfl ?_
    refine ms_istore_n (k := 3) (ls' := [.inr (.inl z1), .inr (.inl r1), .inl x2, .inl (if x3 < (mj_w ((f r1 x5.toNat) - v5)) then (mj_w ((f r1 x5.toNat) - v5)) else x3), .inl x4, .inl x5, .inr (.inr (.inr 0))]) (p' := 45) (by decide +kernel) rfl (Nat.le_of_ble_eq_true rfl) rfl ?_
    refine ms_iload (k := 4) (p' := 47) (by decide +kernel) rfl rfl ?_
    refine ms_aload_n (k := 1) (p' := 48) (by decide +kernel) rfl rfl ?_
    refine ms_iload (k := 5) (p' := 50) (by decide +kernel) rfl rfl ?_
    refine ms_iald (p' := 51) (by decide +kernel) rfl hr1 (fun hj6 => ?_)
    refine ms_aload_n (k := 0) (p' := 52) (by decide +kernel) rfl rfl ?_
    refine ms_iload_n (k := 2) (p' := 53) (by decide +kernel) rfl rfl ?_
    refine ms_iload (k := 5) (p' := 55) (by decide +kernel) rfl rfl ?_
    refine ms_virt_i (idx := 308) (cy := yZ_cell) (n := 2) (a := z1) (as := [.inl x2, .inl x5]) (rest := [.inl (f4 r1 x5.toNat), .inl x4]) (p' := 58) (by decide +kernel) rfl rfl rfl rfl (zn_k hz1 hw) rfl (fun f7 v8 => ?_)
    refine ms_stat_i (idx := 438) (cy := yX_numberOf) (n := 1) (as := [.inl v8]) (rest := [.inl (f4 r1 x5.toNat), .inl x4]) (p' := 61) (by decide +kernel) rfl rfl rfl rfl rfl (fun f9 v10 => ?_)
    refine ms_iadd (p' := 62) (by decide +kernel) rfl ?_
    refine ms_math2 (idx := 382) (k := 13) (x := 0) (q := 1027) (v := (if (mj_w ((f4 r1 x5.toNat) + v10)) < x4 then (mj_w ((f4 r1 x5.toNat) + v10)) else x4)) (p' := 65) (by decide +kernel) (Or.inr ⟨rfl, rfl⟩) rfl rfl ?_
    refine ms_istore (k := 4) (ls' := [.inr (.inl z1), .inr (.inl r1), .inl x2, .inl (if x3 < (mj_w ((f r1 x5.toNat) - v5)) then (mj_w ((f r1 x5.toNat) - v5)) else x3), .inl (if (mj_w ((f4 r1 x5.toNat) + v10)) < x4 then (mj_w ((f4 r1 x5.toNat) + v10)) else x4), .inl x5, .inr (.inr (.inr 0))]) (p' := 67) (by decide +kernel) rfl (Nat.le_of_ble_eq_true rfl) rfl ?_
    refine ms_iinc (k := 5) (n := 1) (ls' := [.inr (.inl z1), .inr (.inl r1), .inl x2, .inl (if x3 < (mj_w ((f r1 x5.toNat) - v5)) then (mj_w ((f r1 x5.toNat) - v5)) else x3), .inl (if (mj_w ((f4 r1 x5.toNat) + v10)) < x4 then (mj_w ((f4 r1 x5.toNat) + v10)) else x4), .inl (mj_w (x5 + 1)), .inr (.inr (.inr 0))]) (p' := 70) (by decide +kernel) rfl rfl rfl ?_
    refine ms_goto (off := (-51)) (p' := 19) (by decide +kernel) ?_
    rfl
theorem l_X_pointsFrom0_100 {sw : Bool} {w : mj_W} (hw : wk sw w) (f : mj_F) (z1 : Nat) (r1 nr1 : Nat) (x2 : Int) (x3 : Int) (x4 : Int) (x5 : Int) (x6 : Int) (hz1 : zn z1 = true) (hr1 : w.1 r1 = (100, nr1)) : mj_run yX_pointsFrom0 w f 100 [.inr (.inl z1), .inr (.inl r1), .inl x2, .inl x3, .inl x4, .inl x5, .inl x6] [] = if x4 < x6 then some (w, f, some (.inl x5)) else mj_gd (0 ≤ x2 ∧ x2 < ((nr1 : Nat) : Int)) (none) := by
  refine ms_iload (k := 6) (p' := 102) (by decide +kernel) rfl rfl ?_
  refine ms_iload (k := 4) (p' := 104) (by decide +kernel) rfl rfl ?_
  refine ms_icmp_gt (off := 27) (t := 131) (p' := 107) (by decide +kernel) rfl (fun hc => ?_) (fun hc => ?_)
  · refine ms_iload (k := 5) (p' := 133) (by decide +kernel) rfl rfl ?_
    exact ms_iret (by decide +kernel)
  · refine ms_aload_n (k := 1) (p' := 108) (by decide +kernel) rfl rfl ?_
    refine ms_iload_n (k := 2) (p' := 109) (by decide +kernel) rfl rfl ?_
    refine ms_iload (k := 6) (p' := 111) (by decide +kernel) rfl rfl ?_
    refine ms_iast (p' := 112) (by decide +kernel) rfl hr1 (fun hj11 => ?_)
    refine ms_iload (k := 5) (p' := 114) (by decide +kernel) rfl rfl ?_
    refine ms_aload_n (k := 0) (p' := 115) (by decide +kernel) rfl rfl ?_
    refine ms_aload_n (k := 1) (p' := 116) (by decide +kernel) rfl rfl ?_
    refine ms_iload_n (k := 2) (p' := 117) (by decide +kernel) rfl rfl ?_
    refine ms_iconst (n := 1) (v := 1) (p' := 118) (by decide +kernel) rfl ?_
    refine ms_iadd (p' := 119) (by decide +kernel) rfl ?_
    exact ms_nocall (idx := 301) (by decide +kernel)
theorem c_X_pointsFrom1 {sw : Bool} {w : mj_W} (hw : wk sw w) (f : mj_F) (z1 : Nat) (r1 nr1 : Nat) (x2 : Int) (hz1 : zn z1 = true) (hr1 : w.1 r1 = (100, nr1)) : mj_call yX_pointsFrom1 w f [.inr (.inl z1), .inr (.inl r1), .inl x2] = if x2 < (f z1 1) then mj_run yX_pointsFrom1 w f 19 [.inr (.inl z1), .inr (.inl r1), .inl x2, .inl 0, .inl 9, .inl 0, .inr (.inr (.inr 0))] [] else some (w, f, some (.inl 1)) := by
  show mj_run yX_pointsFrom1 w f 0 [.inr (.inl z1), .inr (.inl r1), .inl x2, .inr (.inr (.inr 0)), .inr (.inr (.inr 0)), .inr (.inr (.inr 0)), .inr (.inr (.inr 0))] [] = _
  refine ms_iload_n (k := 2) (p' := 1) (by decide +kernel) rfl rfl ?_
  refine ms_aload_n (k := 0) (p' := 2) (by decide +kernel) rfl rfl ?_
  refine ms_geti (idx := 284) (ci := 7) (k := 1) (q := 361) (p' := 5) (by decide +kernel) rfl (zn_k hz1 hw) ?_
  refine ms_icmp_lt (off := 5) (t := 10) (p' := 8) (by decide +kernel) rfl (fun hc => ?_) (fun hc => ?_)
  · refine ms_iconst (n := 0) (v := 0) (p' := 11) (by decide +kernel) rfl ?_
    refine ms_istore_n (k := 3) (ls' := [.inr (.inl z1), .inr (.inl r1), .inl x2, .inl 0, .inr (.inr (.inr 0)), .inr (.inr (.inr 0)), .inr (.inr (.inr 0))]) (p' := 12) (by decide +kernel) rfl (Nat.le_of_ble_eq_true rfl) rfl ?_
    refine ms_bipush (n := 9) (v := 9) (p' := 14) (by decide +kernel) rfl ?_
    refine ms_istore (k := 4) (ls' := [.inr (.inl z1), .inr (.inl r1), .inl x2, .inl 0, .inl 9, .inr (.inr (.inr 0)), .inr (.inr (.inr 0))]) (p' := 16) (by decide +kernel) rfl (Nat.le_of_ble_eq_true rfl) rfl ?_
    refine ms_iconst (n := 0) (v := 0) (p' := 17) (by decide +kernel) rfl ?_
    refine ms_istore (k := 5) (ls' := [.inr (.inl z1), .inr (.inl r1), .inl x2, .inl 0, .inl 9, .inl 0, .inr (.inr (.inr 0))]) (p' := 19) (by decide +kernel) rfl (Nat.le_of_ble_eq_true rfl) rfl ?_
    rfl
  · refine ms_iconst (n := 1) (v := 1) (p' := 9) (by decide +kernel) rfl ?_
    exact ms_iret (by decide +kernel)
theorem l_X_pointsFrom1_19 {sw : Bool} {w : mj_W} (hw : wk sw w) (f : mj_F) (z1 : Nat) (r1 nr1 : Nat) (x2 : Int) (x3 : Int) (x4 : Int) (x5 : Int) (hz1 : zn z1 = true) (hr1 : w.1 r1 = (100, nr1)) : mj_run yX_pointsFrom1 w f 19 [.inr (.inl z1), .inr (.inl r1), .inl x2, .inl x3, .inl x4, .inl x5, .inr (.inr (.inr 0))] [] = if x2 ≤ x5 then if ¬ x2 = (mj_w ((f z1 1) - 1)) then mj_run yX_pointsFrom1 w f 100 [.inr (.inl z1), .inr (.inl r1), .inl x2, .inl x3, .inl x4, .inl 0, .inl x3] [] else some (w, f, some (.inl (if 0 < (mj_w ((mj_w (x4 - x3)) + 1)) then (mj_w ((mj_w (x4 - x3)) + 1)) else 0))) else mj_gd (0 ≤ x5 ∧ x5 < ((nr1 : Nat) : Int)) (mj_bi (mj_call yZ_cell w f [.inr (.inl z1), .inl x5, .inl x2]) (fun f2 v3 => mj_bi (mj_call yX_numberOf w f2 [.inl v3]) (fun f4 v5 => mj_gd (0 ≤ x5 ∧ x5 < ((nr1 : Nat) : Int)) (mj_bi (mj_call yZ_cell w f4 [.inr (.inl z1), .inl x2, .inl x5]) (fun f7 v8 => mj_bi (mj_call yX_numberOf w f7 [.inl v8]) (fun f9 v10 => mj_run yX_pointsFrom1 w f9 19 [.inr (.inl z1), .inr (.inl r1), .inl x2, .inl (if x3 < (mj_w ((f r1 x5.toNat) - v5)) then (mj_w ((f r1 x5.toNat) - v5)) else x3), .inl (if (mj_w ((f4 r1 x5.toNat) + v10)) < x4 then (mj_w ((f4 r1 x5.toNat) + v10)) else x4), .inl (mj_w (x5 + 1)), .inr (.inr (.inr 0))] [])))))) := by
  refine ms_iload (k := 5) (p' := 21) (by decide +kernel) rfl rfl ?_
  refine ms_iload_n (k := 2) (p' := 22) (by decide +kernel) rfl rfl ?_
  refine ms_icmp_ge (off := 51) (t := 73) (p' := 25) (by decide +kernel) rfl (fun hc => ?_) (fun hc => ?_)
  · refine ms_iload_n (k := 2) (p' := 74) (by decide +kernel) rfl rfl ?_
    refine ms_aload_n (k := 0) (p' := 75) (by decide +kernel) rfl rfl ?_
    refine ms_geti (idx := 284) (ci := 7) (k := 1) (q := 361) (p' := 78) (by decide +kernel) rfl (zn_k hz1 hw) ?_
    refine ms_iconst (n := 1) (v := 1) (p' := 79) (by decide +kernel) rfl ?_
    refine ms_isub (p' := 80) (by decide +kernel) rfl ?_
    refine ms_icmp_ne (off := 14) (t := 94) (p' := 83) (by decide +kernel) rfl (fun hc => ?_) (fun hc => ?_)
    · refine ms_iconst (n := 0) (v := 0) (p' := 95) (by decide +kernel) rfl ?_
      refine ms_istore (k := 5) (ls' := [.inr (.inl z1), .inr (.inl r1), .inl x2, .inl x3, .inl x4, .inl 0, .inr (.inr (.inr 0))]) (p' := 97) (by decide +kernel) rfl (Nat.le_of_ble_eq_true rfl) rfl ?_
      refine ms_iload_n (k := 3) (p' := 98) (by decide +kernel) rfl rfl ?_
      refine ms_istore (k := 6) (ls' := [.inr (.inl z1), .inr (.inl r1), .inl x2, .inl x3, .inl x4, .inl 0, .inl x3]) (p' := 100) (by decide +kernel) rfl (Nat.le_of_ble_eq_true rfl) rfl ?_
      rfl
    · refine ms_iconst (n := 0) (v := 0) (p' := 84) (by decide +kernel) rfl ?_
      refine ms_iload (k := 4) (p' := 86) (by decide +kernel) rfl rfl ?_
      refine ms_iload_n (k := 3) (p' := 87) (by decide +kernel) rfl rfl ?_
      refine ms_isub (p' := 88) (by decide +kernel) rfl ?_
      refine ms_iconst (n := 1) (v := 1) (p' := 89) (by decide +kernel) rfl ?_
      refine ms_iadd (p' := 90) (by decide +kernel) rfl ?_
      refine ms_math2 (idx := 441) (k := 12) (x := 0) (q := 1026) (v := (if 0 < (mj_w ((mj_w (x4 - x3)) + 1)) then (mj_w ((mj_w (x4 - x3)) + 1)) else 0)) (p' := 93) (by decide +kernel) (Or.inl ⟨rfl, rfl⟩) rfl rfl ?_
      exact ms_iret (by decide +kernel)
  · refine ms_iload_n (k := 3) (p' := 26) (by decide +kernel) rfl rfl ?_
    refine ms_aload_n (k := 1) (p' := 27) (by decide +kernel) rfl rfl ?_
    refine ms_iload (k := 5) (p' := 29) (by decide +kernel) rfl rfl ?_
    refine ms_iald (p' := 30) (by decide +kernel) rfl hr1 (fun hj1 => ?_)
    refine ms_aload_n (k := 0) (p' := 31) (by decide +kernel) rfl rfl ?_
    refine ms_iload (k := 5) (p' := 33) (by decide +kernel) rfl rfl ?_
    refine ms_iload_n (k := 2) (p' := 34) (by decide +kernel) rfl rfl ?_
    refine ms_virt_i (idx := 308) (cy := yZ_cell) (n := 2) (a := z1) (as := [.inl x5, .inl x2]) (rest := [.inl (f r1 x5.toNat), .inl x3]) (p' := 37) (by decide +kernel) rfl rfl rfl rfl (zn_k hz1 hw) rfl (fun f2 v3 => ?_)
    refine ms_stat_i (idx := 438) (cy := yX_numberOf) (n := 1) (as := [.inl v3]) (rest := [.inl (f r1 x5.toNat), .inl x3]) (p' := 40) (by decide +kernel) rfl rfl rfl rfl rfl (fun f4 v5 => ?_)
    refine ms_isub (p' := 41) (by decide +kernel) rfl ?_
    refine ms_math2 (idx := 441) (k := 12) (x := 0) (q := 1026) (v := (if x3 < (mj_w ((f r1 x5.toNat) - v5)) then (mj_w ((f r1 x5.toNat) - v5)) else x3)) (p' := 44) (by decide +kernel) (Or.inl ⟨rfl, rfl⟩) rfl rfl ?_
    refine ms_istore_n (k := 3) (ls' := [.inr (.inl z1), .inr (.inl r1), .inl x2, .inl (if x3 < (mj_w ((f r1 x5.toNat) - v5)) then (mj_w ((f r1 x5.toNat) - v5)) else x3), .inl x4, .inl x5, .inr (.inr (.inr 0))]) (p' := 45) (by decide +kernel) rfl (Nat.le_of_ble_eq_true rfl) rfl ?_
    refine ms_iload (k := 4) (p' := 47) (by decide +kernel) rfl rfl ?_
    refine ms_aload_n (k := 1) (p' := 48) (by decide +kernel) rfl rfl ?_
    refine ms_iload (k := 5) (p' := 50) (by decide +kernel) rfl rfl ?_
    refine ms_iald (p' := 51) (by decide +kernel) rfl hr1 (fun hj6 => ?_)
    refine ms_aload_n (k := 0) (p' := 52) (by decide +kernel) rfl rfl ?_
    refine ms_iload_n (k := 2) (p' := 53) (by decide +kernel) rfl rfl ?_
    refine ms_iload (k := 5) (p' := 55) (by decide +kernel) rfl rfl ?_
    refine ms_virt_i (idx := 308) (cy := yZ_cell) (n := 2) (a := z1) (as := [.inl x2, .inl x5]) (rest := [.inl (f4 r1 x5.toNat), .inl x4]) (p' := 58) (by decide +kernel) rfl rfl rfl rfl (zn_k hz1 hw) rfl (fun f7 v8 => ?_)
    refine ms_stat_i (idx := 438) (cy := yX_numberOf) (n := 1) (as := [.inl v8]) (rest := [.inl (f4 r1 x5.toNat), .inl x4]) (p' := 61) (by decide +kernel) rfl rfl rfl rfl rfl (fun f9 v10 => ?_)
    refine ms_iadd (p' := 62) (by decide +kernel) rfl ?_
    refine ms_math2 (idx := 382) (k := 13) (x := 0) (q := 1027) (v := (if (mj_w ((f4 r1 x5.toNat) + v10)) < x4 then (mj_w ((f4 r1 x5.toNat) + v10)) else x4)) (p' := 65) (by decide +kernel) (Or.inr ⟨rfl, rfl⟩) rfl rfl ?_
    refine ms_istore (k := 4) (ls' := [.inr (.inl z1), .inr (.inl r1), .inl x2, .inl (if x3 < (mj_w ((f r1 x5.toNat) - v5)) then (mj_w ((f r1 x5.toNat) - v5)) else x3), .inl (if (mj_w ((f4 r1 x5.toNat) + v10)) < x4 then (mj_w ((f4 r1 x5.toNat) + v10)) else x4), .inl x5, .inr (.inr (.inr 0))]) (p' := 67) (by decide +kernel) rfl (Nat.le_of_ble_eq_true rfl) rfl ?_
    refine ms_iinc (k := 5) (n := 1) (ls' := [.inr (.inl z1), .inr (.inl r1), .inl x2, .inl (if x3 < (mj_w ((f r1 x5.toNat) - v5)) then (mj_w ((f r1 x5.toNat) - v5)) else x3), .inl (if (mj_w ((f4 r1 x5.toNat) + v10)) < x4 then (mj_w ((f4 r1 x5.toNat) + v10)) else x4), .inl (mj_w (x5 + 1)), .inr (.inr (.inr 0))]) (p' := 70) (by decide +kernel) rfl rfl rfl ?_
    refine ms_goto (off := (-51)) (p' := 19) (by decide +kernel) ?_
    rfl
theorem l_X_pointsFrom1_100 {sw : Bool} {w : mj_W} (hw : wk sw w) (f : mj_F) (z1 : Nat) (r1 nr1 : Nat) (x2 : Int) (x3 : Int) (x4 : Int) (x5 : Int) (x6 : Int) (hz1 : zn z1 = true) (hr1 : w.1 r1 = (100, nr1)) : mj_run yX_pointsFrom1 w f 100 [.inr (.inl z1), .inr (.inl r1), .inl x2, .inl x3, .inl x4, .inl x5, .inl x6] [] = if x4 < x6 then some (w, f, some (.inl x5)) else mj_gd (0 ≤ x2 ∧ x2 < ((nr1 : Nat) : Int)) (mj_bi (mj_call yX_pointsFrom0 w (mj_u f r1 x2.toNat x6) [.inr (.inl z1), .inr (.inl r1), .inl (mj_w (x2 + 1))]) (fun f12 v13 => mj_run yX_pointsFrom1 w f12 100 [.inr (.inl z1), .inr (.inl r1), .inl x2, .inl x3, .inl x4, .inl (mj_w (x5 + v13)), .inl (mj_w (x6 + 1))] [])) := by
  refine ms_iload (k := 6) (p' := 102) (by decide +kernel) rfl rfl ?_
  refine ms_iload (k := 4) (p' := 104) (by decide +kernel) rfl rfl ?_
  refine ms_icmp_gt (off := 27) (t := 131) (p' := 107) (by decide +kernel) rfl (fun hc => ?_) (fun hc => ?_)
  · refine ms_iload (k := 5) (p' := 133) (by decide +kernel) rfl rfl ?_
    exact ms_iret (by decide +kernel)
  · refine ms_aload_n (k := 1) (p' := 108) (by decide +kernel) rfl rfl ?_
    refine ms_iload_n (k := 2) (p' := 109) (by decide +kernel) rfl rfl ?_
    refine ms_iload (k := 6) (p' := 111) (by decide +kernel) rfl rfl ?_
    refine ms_iast (p' := 112) (by decide +kernel) rfl hr1 (fun hj11 => ?_)
    refine ms_iload (k := 5) (p' := 114) (by decide +kernel) rfl rfl ?_
    refine ms_aload_n (k := 0) (p' := 115) (by decide +kernel) rfl rfl ?_
    refine ms_aload_n (k := 1) (p' := 116) (by decide +kernel) rfl rfl ?_
    refine ms_iload_n (k := 2) (p' := 117) (by decide +kernel) rfl rfl ?_
    refine ms_iconst (n := 1) (v := 1) (p' := 118) (by decide +kernel) rfl ?_
    refine ms_iadd (p' := 119) (by decide +kernel) rfl ?_
    refine ms_stat_i (idx := 301) (cy := yX_pointsFrom0) (n := 3) (as := [.inr (.inl z1), .inr (.inl r1), .inl (mj_w (x2 + 1))]) (rest := [.inl x5]) (p' := 122) (by decide +kernel) rfl rfl rfl rfl rfl (fun f12 v13 => ?_)
    refine ms_iadd (p' := 123) (by decide +kernel) rfl ?_
    refine ms_istore (k := 5) (ls' := [.inr (.inl z1), .inr (.inl r1), .inl x2, .inl x3, .inl x4, .inl (mj_w (x5 + v13)), .inl x6]) (p' := 125) (by decide +kernel) rfl (Nat.le_of_ble_eq_true rfl) rfl ?_
    refine ms_iinc (k := 6) (n := 1) (ls' := [.inr (.inl z1), .inr (.inl r1), .inl x2, .inl x3, .inl x4, .inl (mj_w (x5 + v13)), .inl (mj_w (x6 + 1))]) (p' := 128) (by decide +kernel) rfl rfl rfl ?_
    refine ms_goto (off := (-28)) (p' := 100) (by decide +kernel) ?_
    rfl
theorem c_X_pointsFrom2 {sw : Bool} {w : mj_W} (hw : wk sw w) (f : mj_F) (z1 : Nat) (r1 nr1 : Nat) (x2 : Int) (hz1 : zn z1 = true) (hr1 : w.1 r1 = (100, nr1)) : mj_call yX_pointsFrom2 w f [.inr (.inl z1), .inr (.inl r1), .inl x2] = if x2 < (f z1 1) then mj_run yX_pointsFrom2 w f 19 [.inr (.inl z1), .inr (.inl r1), .inl x2, .inl 0, .inl 9, .inl 0, .inr (.inr (.inr 0))] [] else some (w, f, some (.inl 1)) := by
  show mj_run yX_pointsFrom2 w f 0 [.inr (.inl z1), .inr (.inl r1), .inl x2, .inr (.inr (.inr 0)), .inr (.inr (.inr 0)), .inr (.inr (.inr 0)), .inr (.inr (.inr 0))] [] = _
  refine ms_iload_n (k := 2) (p' := 1) (by decide +kernel) rfl rfl ?_
  refine ms_aload_n (k := 0) (p' := 2) (by decide +kernel) rfl rfl ?_
  refine ms_geti (idx := 284) (ci := 7) (k := 1) (q := 361) (p' := 5) (by decide +kernel) rfl (zn_k hz1 hw) ?_
  refine ms_icmp_lt (off := 5) (t := 10) (p' := 8) (by decide +kernel) rfl (fun hc => ?_) (fun hc => ?_)
  · refine ms_iconst (n := 0) (v := 0) (p' := 11) (by decide +kernel) rfl ?_
    refine ms_istore_n (k := 3) (ls' := [.inr (.inl z1), .inr (.inl r1), .inl x2, .inl 0, .inr (.inr (.inr 0)), .inr (.inr (.inr 0)), .inr (.inr (.inr 0))]) (p' := 12) (by decide +kernel) rfl (Nat.le_of_ble_eq_true rfl) rfl ?_
    refine ms_bipush (n := 9) (v := 9) (p' := 14) (by decide +kernel) rfl ?_
    refine ms_istore (k := 4) (ls' := [.inr (.inl z1), .inr (.inl r1), .inl x2, .inl 0, .inl 9, .inr (.inr (.inr 0)), .inr (.inr (.inr 0))]) (p' := 16) (by decide +kernel) rfl (Nat.le_of_ble_eq_true rfl) rfl ?_
    refine ms_iconst (n := 0) (v := 0) (p' := 17) (by decide +kernel) rfl ?_
    refine ms_istore (k := 5) (ls' := [.inr (.inl z1), .inr (.inl r1), .inl x2, .inl 0, .inl 9, .inl 0, .inr (.inr (.inr 0))]) (p' := 19) (by decide +kernel) rfl (Nat.le_of_ble_eq_true rfl) rfl ?_
    rfl
  · refine ms_iconst (n := 1) (v := 1) (p' := 9) (by decide +kernel) rfl ?_
    exact ms_iret (by decide +kernel)
theorem l_X_pointsFrom2_19 {sw : Bool} {w : mj_W} (hw : wk sw w) (f : mj_F) (z1 : Nat) (r1 nr1 : Nat) (x2 : Int) (x3 : Int) (x4 : Int) (x5 : Int) (hz1 : zn z1 = true) (hr1 : w.1 r1 = (100, nr1)) : mj_run yX_pointsFrom2 w f 19 [.inr (.inl z1), .inr (.inl r1), .inl x2, .inl x3, .inl x4, .inl x5, .inr (.inr (.inr 0))] [] = if x2 ≤ x5 then if ¬ x2 = (mj_w ((f z1 1) - 1)) then mj_run yX_pointsFrom2 w f 100 [.inr (.inl z1), .inr (.inl r1), .inl x2, .inl x3, .inl x4, .inl 0, .inl x3] [] else some (w, f, some (.inl (if 0 < (mj_w ((mj_w (x4 - x3)) + 1)) then (mj_w ((mj_w (x4 - x3)) + 1)) else 0))) else mj_gd (0 ≤ x5 ∧ x5 < ((nr1 : Nat) : Int)) (mj_bi (mj_call yZ_cell w f [.inr (.inl z1), .inl x5, .inl x2]) (fun f2 v3 => mj_bi (mj_call yX_numberOf w f2 [.inl v3]) (fun f4 v5 => mj_gd (0 ≤ x5 ∧ x5 < ((nr1 : Nat) : Int)) (mj_bi (mj_call yZ_cell w f4 [.inr (.inl z1), .inl x2, .inl x5]) (fun f7 v8 => mj_bi (mj_call yX_numberOf w f7 [.inl v8]) (fun f9 v10 => mj_run yX_pointsFrom2 w f9 19 [.inr (.inl z1), .inr (.inl r1), .inl x2, .inl (if x3 < (mj_w ((f r1 x5.toNat) - v5)) then (mj_w ((f r1 x5.toNat) - v5)) else x3), .inl (if (mj_w ((f4 r1 x5.toNat) + v10)) < x4 then (mj_w ((f4 r1 x5.toNat) + v10)) else x4), .inl (mj_w (x5 + 1)), .inr (.inr (.inr 0))] [])))))) := by
  refine ms_iload (k := 5) (p' := 21) (by decide +kernel) rfl rfl ?_
  refine ms_iload_n (k := 2) (p' := 22) (by decide +kernel) rfl rfl ?_
  refine ms_icmp_ge (off := 51) (t := 73) (p' := 25) (by decide +kernel) rfl (fun hc => ?_) (fun hc => ?_)
  · refine ms_iload_n (k := 2) (p' := 74) (by decide +kernel) rfl rfl ?_
    refine ms_aload_n (k := 0) (p' := 75) (by decide +kernel) rfl rfl ?_
    refine ms_geti (idx := 284) (ci := 7) (k := 1) (q := 361) (p' := 78) (by decide +kernel) rfl (zn_k hz1 hw) ?_
    refine ms_iconst (n := 1) (v := 1) (p' := 79) (by decide +kernel) rfl ?_
    refine ms_isub (p' := 80) (by decide +kernel) rfl ?_
    refine ms_icmp_ne (off := 14) (t := 94) (p' := 83) (by decide +kernel) rfl (fun hc => ?_) (fun hc => ?_)
    · refine ms_iconst (n := 0) (v := 0) (p' := 95) (by decide +kernel) rfl ?_
      refine ms_istore (k := 5) (ls' := [.inr (.inl z1), .inr (.inl r1), .inl x2, .inl x3, .inl x4, .inl 0, .inr (.inr (.inr 0))]) (p' := 97) (by decide +kernel) rfl (Nat.le_of_ble_eq_true rfl) rfl ?_
      refine ms_iload_n (k := 3) (p' := 98) (by decide +kernel) rfl rfl ?_
      refine ms_istore (k := 6) (ls' := [.inr (.inl z1), .inr (.inl r1), .inl x2, .inl x3, .inl x4, .inl 0, .inl x3]) (p' := 100) (by decide +kernel) rfl (Nat.le_of_ble_eq_true rfl) rfl ?_
      rfl
    · refine ms_iconst (n := 0) (v := 0) (p' := 84) (by decide +kernel) rfl ?_
      refine ms_iload (k := 4) (p' := 86) (by decide +kernel) rfl rfl ?_
      refine ms_iload_n (k := 3) (p' := 87) (by decide +kernel) rfl rfl ?_
      refine ms_isub (p' := 88) (by decide +kernel) rfl ?_
      refine ms_iconst (n := 1) (v := 1) (p' := 89) (by decide +kernel) rfl ?_
      refine ms_iadd (p' := 90) (by decide +kernel) rfl ?_
      refine ms_math2 (idx := 441) (k := 12) (x := 0) (q := 1026) (v := (if 0 < (mj_w ((mj_w (x4 - x3)) + 1)) then (mj_w ((mj_w (x4 - x3)) + 1)) else 0)) (p' := 93) (by decide +kernel) (Or.inl ⟨rfl, rfl⟩) rfl rfl ?_
      exact ms_iret (by decide +kernel)
  · refine ms_iload_n (k := 3) (p' := 26) (by decide +kernel) rfl rfl ?_
    refine ms_aload_n (k := 1) (p' := 27) (by decide +kernel) rfl rfl ?_
    refine ms_iload (k := 5) (p' := 29) (by decide +kernel) rfl rfl ?_
    refine ms_iald (p' := 30) (by decide +kernel) rfl hr1 (fun hj1 => ?_)
    refine ms_aload_n (k := 0) (p' := 31) (by decide +kernel) rfl rfl ?_
    refine ms_iload (k := 5) (p' := 33) (by decide +kernel) rfl rfl ?_
    refine ms_iload_n (k := 2) (p' := 34) (by decide +kernel) rfl rfl ?_
    refine ms_virt_i (idx := 308) (cy := yZ_cell) (n := 2) (a := z1) (as := [.inl x5, .inl x2]) (rest := [.inl (f r1 x5.toNat), .inl x3]) (p' := 37) (by decide +kernel) rfl rfl rfl rfl (zn_k hz1 hw) rfl (fun f2 v3 => ?_)
    refine ms_stat_i (idx := 438) (cy := yX_numberOf) (n := 1) (as := [.inl v3]) (rest := [.inl (f r1 x5.toNat), .inl x3]) (p' := 40) (by decide +kernel) rfl rfl rfl rfl rfl (fun f4 v5 => ?_)
    refine ms_isub (p' := 41) (by decide +kernel) rfl ?_
    refine ms_math2 (idx := 441) (k := 12) (x := 0) (q := 1026) (v := (if x3 < (mj_w ((f r1 x5.toNat) - v5)) then (mj_w ((f r1 x5.toNat) - v5)) else x3)) (p' := 44) (by decide +kernel) (Or.inl ⟨rfl, rfl⟩) rfl rfl ?_
    refine ms_istore_n (k := 3) (ls' := [.inr (.inl z1), .inr (.inl r1), .inl x2, .inl (if x3 < (mj_w ((f r1 x5.toNat) - v5)) then (mj_w ((f r1 x5.toNat) - v5)) else x3), .inl x4, .inl x5, .inr (.inr (.inr 0))]) (p' := 45) (by decide +kernel) rfl (Nat.le_of_ble_eq_true rfl) rfl ?_
    refine ms_iload (k := 4) (p' := 47) (by decide +kernel) rfl rfl ?_
    refine ms_aload_n (k := 1) (p' := 48) (by decide +kernel) rfl rfl ?_
    refine ms_iload (k := 5) (p' := 50) (by decide +kernel) rfl rfl ?_
    refine ms_iald (p' := 51) (by decide +kernel) rfl hr1 (fun hj6 => ?_)
    refine ms_aload_n (k := 0) (p' := 52) (by decide +kernel) rfl rfl ?_
    refine ms_iload_n (k := 2) (p' := 53) (by decide +kernel) rfl rfl ?_
    refine ms_iload (k := 5) (p' := 55) (by decide +kernel) rfl rfl ?_
    refine ms_virt_i (idx := 308) (cy := yZ_cell) (n := 2) (a := z1) (as := [.inl x2, .inl x5]) (rest := [.inl (f4 r1 x5.toNat), .inl x4]) (p' := 58) (by decide +kernel) rfl rfl rfl rfl (zn_k hz1 hw) rfl (fun f7 v8 => ?_)
    refine ms_stat_i (idx := 438) (cy := yX_numberOf) (n := 1) (as := [.inl v8]) (rest := [.inl (f4 r1 x5.toNat), .inl x4]) (p' := 61) (by decide +kernel) rfl rfl rfl rfl rfl (fun f9 v10 => ?_)
    refine ms_iadd (p' := 62) (by decide +kernel) rfl ?_
    refine ms_math2 (idx := 382) (k := 13) (x := 0) (q := 1027) (v := (if (mj_w ((f4 r1 x5.toNat) + v10)) < x4 then (mj_w ((f4 r1 x5.toNat) + v10)) else x4)) (p' := 65) (by decide +kernel) (Or.inr ⟨rfl, rfl⟩) rfl rfl ?_
    refine ms_istore (k := 4) (ls' := [.inr (.inl z1), .inr (.inl r1), .inl x2, .inl (if x3 < (mj_w ((f r1 x5.toNat) - v5)) then (mj_w ((f r1 x5.toNat) - v5)) else x3), .inl (if (mj_w ((f4 r1 x5.toNat) + v10)) < x4 then (mj_w ((f4 r1 x5.toNat) + v10)) else x4), .inl x5, .inr (.inr (.inr 0))]) (p' := 67) (by decide +kernel) rfl (Nat.le_of_ble_eq_true rfl) rfl ?_
    refine ms_iinc (k := 5) (n := 1) (ls' := [.inr (.inl z1), .inr (.inl r1), .inl x2, .inl (if x3 < (mj_w ((f r1 x5.toNat) - v5)) then (mj_w ((f r1 x5.toNat) - v5)) else x3), .inl (if (mj_w ((f4 r1 x5.toNat) + v10)) < x4 then (mj_w ((f4 r1 x5.toNat) + v10)) else x4), .inl (mj_w (x5 + 1)), .inr (.inr (.inr 0))]) (p' := 70) (by decide +kernel) rfl rfl rfl ?_
    refine ms_goto (off := (-51)) (p' := 19) (by decide +kernel) ?_
    rfl
theorem l_X_pointsFrom2_100 {sw : Bool} {w : mj_W} (hw : wk sw w) (f : mj_F) (z1 : Nat) (r1 nr1 : Nat) (x2 : Int) (x3 : Int) (x4 : Int) (x5 : Int) (x6 : Int) (hz1 : zn z1 = true) (hr1 : w.1 r1 = (100, nr1)) : mj_run yX_pointsFrom2 w f 100 [.inr (.inl z1), .inr (.inl r1), .inl x2, .inl x3, .inl x4, .inl x5, .inl x6] [] = if x4 < x6 then some (w, f, some (.inl x5)) else mj_gd (0 ≤ x2 ∧ x2 < ((nr1 : Nat) : Int)) (mj_bi (mj_call yX_pointsFrom1 w (mj_u f r1 x2.toNat x6) [.inr (.inl z1), .inr (.inl r1), .inl (mj_w (x2 + 1))]) (fun f12 v13 => mj_run yX_pointsFrom2 w f12 100 [.inr (.inl z1), .inr (.inl r1), .inl x2, .inl x3, .inl x4, .inl (mj_w (x5 + v13)), .inl (mj_w (x6 + 1))] [])) := by
  refine ms_iload (k := 6) (p' := 102) (by decide +kernel) rfl rfl ?_
  refine ms_iload (k := 4) (p' := 104) (by decide +kernel) rfl rfl ?_
  refine ms_icmp_gt (off := 27) (t := 131) (p' := 107) (by decide +kernel) rfl (fun hc => ?_) (fun hc => ?_)
  · refine ms_iload (k := 5) (p' := 133) (by decide +kernel) rfl rfl ?_
    exact ms_iret (by decide +kernel)
  · refine ms_aload_n (k := 1) (p' := 108) (by decide +kernel) rfl rfl ?_
    refine ms_iload_n (k := 2) (p' := 109) (by decide +kernel) rfl rfl ?_
    refine ms_iload (k := 6) (p' := 111) (by decide +kernel) rfl rfl ?_
    refine ms_iast (p' := 112) (by decide +kernel) rfl hr1 (fun hj11 => ?_)
    refine ms_iload (k := 5) (p' := 114) (by decide +kernel) rfl rfl ?_
    refine ms_aload_n (k := 0) (p' := 115) (by decide +kernel) rfl rfl ?_
    refine ms_aload_n (k := 1) (p' := 116) (by decide +kernel) rfl rfl ?_
    refine ms_iload_n (k := 2) (p' := 117) (by decide +kernel) rfl rfl ?_
    refine ms_iconst (n := 1) (v := 1) (p' := 118) (by decide +kernel) rfl ?_
    refine ms_iadd (p' := 119) (by decide +kernel) rfl ?_
    refine ms_stat_i (idx := 301) (cy := yX_pointsFrom1) (n := 3) (as := [.inr (.inl z1), .inr (.inl r1), .inl (mj_w (x2 + 1))]) (rest := [.inl x5]) (p' := 122) (by decide +kernel) rfl rfl rfl rfl rfl (fun f12 v13 => ?_)
    refine ms_iadd (p' := 123) (by decide +kernel) rfl ?_
    refine ms_istore (k := 5) (ls' := [.inr (.inl z1), .inr (.inl r1), .inl x2, .inl x3, .inl x4, .inl (mj_w (x5 + v13)), .inl x6]) (p' := 125) (by decide +kernel) rfl (Nat.le_of_ble_eq_true rfl) rfl ?_
    refine ms_iinc (k := 6) (n := 1) (ls' := [.inr (.inl z1), .inr (.inl r1), .inl x2, .inl x3, .inl x4, .inl (mj_w (x5 + v13)), .inl (mj_w (x6 + 1))]) (p' := 128) (by decide +kernel) rfl rfl rfl ?_
    refine ms_goto (off := (-28)) (p' := 100) (by decide +kernel) ?_
    rfl
theorem c_X_pointsFrom3 {sw : Bool} {w : mj_W} (hw : wk sw w) (f : mj_F) (z1 : Nat) (r1 nr1 : Nat) (x2 : Int) (hz1 : zn z1 = true) (hr1 : w.1 r1 = (100, nr1)) : mj_call yX_pointsFrom3 w f [.inr (.inl z1), .inr (.inl r1), .inl x2] = if x2 < (f z1 1) then mj_run yX_pointsFrom3 w f 19 [.inr (.inl z1), .inr (.inl r1), .inl x2, .inl 0, .inl 9, .inl 0, .inr (.inr (.inr 0))] [] else some (w, f, some (.inl 1)) := by
  show mj_run yX_pointsFrom3 w f 0 [.inr (.inl z1), .inr (.inl r1), .inl x2, .inr (.inr (.inr 0)), .inr (.inr (.inr 0)), .inr (.inr (.inr 0)), .inr (.inr (.inr 0))] [] = _
  refine ms_iload_n (k := 2) (p' := 1) (by decide +kernel) rfl rfl ?_
  refine ms_aload_n (k := 0) (p' := 2) (by decide +kernel) rfl rfl ?_
  refine ms_geti (idx := 284) (ci := 7) (k := 1) (q := 361) (p' := 5) (by decide +kernel) rfl (zn_k hz1 hw) ?_
  refine ms_icmp_lt (off := 5) (t := 10) (p' := 8) (by decide +kernel) rfl (fun hc => ?_) (fun hc => ?_)
  · refine ms_iconst (n := 0) (v := 0) (p' := 11) (by decide +kernel) rfl ?_
    refine ms_istore_n (k := 3) (ls' := [.inr (.inl z1), .inr (.inl r1), .inl x2, .inl 0, .inr (.inr (.inr 0)), .inr (.inr (.inr 0)), .inr (.inr (.inr 0))]) (p' := 12) (by decide +kernel) rfl (Nat.le_of_ble_eq_true rfl) rfl ?_
    refine ms_bipush (n := 9) (v := 9) (p' := 14) (by decide +kernel) rfl ?_
    refine ms_istore (k := 4) (ls' := [.inr (.inl z1), .inr (.inl r1), .inl x2, .inl 0, .inl 9, .inr (.inr (.inr 0)), .inr (.inr (.inr 0))]) (p' := 16) (by decide +kernel) rfl (Nat.le_of_ble_eq_true rfl) rfl ?_
    refine ms_iconst (n := 0) (v := 0) (p' := 17) (by decide +kernel) rfl ?_
    refine ms_istore (k := 5) (ls' := [.inr (.inl z1), .inr (.inl r1), .inl x2, .inl 0, .inl 9, .inl 0, .inr (.inr (.inr 0))]) (p' := 19) (by decide +kernel) rfl (Nat.le_of_ble_eq_true rfl) rfl ?_
    rfl
  · refine ms_iconst (n := 1) (v := 1) (p' := 9) (by decide +kernel) rfl ?_
    exact ms_iret (by decide +kernel)
theorem l_X_pointsFrom3_19 {sw : Bool} {w : mj_W} (hw : wk sw w) (f : mj_F) (z1 : Nat) (r1 nr1 : Nat) (x2 : Int) (x3 : Int) (x4 : Int) (x5 : Int) (hz1 : zn z1 = true) (hr1 : w.1 r1 = (100, nr1)) : mj_run yX_pointsFrom3 w f 19 [.inr (.inl z1), .inr (.inl r1), .inl x2, .inl x3, .inl x4, .inl x5, .inr (.inr (.inr 0))] [] = if x2 ≤ x5 then if ¬ x2 = (mj_w ((f z1 1) - 1)) then mj_run yX_pointsFrom3 w f 100 [.inr (.inl z1), .inr (.inl r1), .inl x2, .inl x3, .inl x4, .inl 0, .inl x3] [] else some (w, f, some (.inl (if 0 < (mj_w ((mj_w (x4 - x3)) + 1)) then (mj_w ((mj_w (x4 - x3)) + 1)) else 0))) else mj_gd (0 ≤ x5 ∧ x5 < ((nr1 : Nat) : Int)) (mj_bi (mj_call yZ_cell w f [.inr (.inl z1), .inl x5, .inl x2]) (fun f2 v3 => mj_bi (mj_call yX_numberOf w f2 [.inl v3]) (fun f4 v5 => mj_gd (0 ≤ x5 ∧ x5 < ((nr1 : Nat) : Int)) (mj_bi (mj_call yZ_cell w f4 [.inr (.inl z1), .inl x2, .inl x5]) (fun f7 v8 => mj_bi (mj_call yX_numberOf w f7 [.inl v8]) (fun f9 v10 => mj_run yX_pointsFrom3 w f9 19 [.inr (.inl z1), .inr (.inl r1), .inl x2, .inl (if x3 < (mj_w ((f r1 x5.toNat) - v5)) then (mj_w ((f r1 x5.toNat) - v5)) else x3), .inl (if (mj_w ((f4 r1 x5.toNat) + v10)) < x4 then (mj_w ((f4 r1 x5.toNat) + v10)) else x4), .inl (mj_w (x5 + 1)), .inr (.inr (.inr 0))] [])))))) := by
  refine ms_iload (k := 5) (p' := 21) (by decide +kernel) rfl rfl ?_
  refine ms_iload_n (k := 2) (p' := 22) (by decide +kernel) rfl rfl ?_
  refine ms_icmp_ge (off := 51) (t := 73) (p' := 25) (by decide +kernel) rfl (fun hc => ?_) (fun hc => ?_)
  · refine ms_iload_n (k := 2) (p' := 74) (by decide +kernel) rfl rfl ?_
    refine ms_aload_n (k := 0) (p' := 75) (by decide +kernel) rfl rfl ?_
    refine ms_geti (idx := 284) (ci := 7) (k := 1) (q := 361) (p' := 78) (by decide +kernel) rfl (zn_k hz1 hw) ?_
    refine ms_iconst (n := 1) (v := 1) (p' := 79) (by decide +kernel) rfl ?_
    refine ms_isub (p' := 80) (by decide +kernel) rfl ?_
    refine ms_icmp_ne (off := 14) (t := 94) (p' := 83) (by decide +kernel) rfl (fun hc => ?_) (fun hc => ?_)
    · refine ms_iconst (n := 0) (v := 0) (p' := 95) (by decide +kernel) rfl ?_
      refine ms_istore (k := 5) (ls' := [.inr (.inl z1), .inr (.inl r1), .inl x2, .inl x3, .inl x4, .inl 0, .inr (.inr (.inr 0))]) (p' := 97) (by decide +kernel) rfl (Nat.le_of_ble_eq_true rfl) rfl ?_
      refine ms_iload_n (k := 3) (p' := 98) (by decide +kernel) rfl rfl ?_
      refine ms_istore (k := 6) (ls' := [.inr (.inl z1), .inr (.inl r1), .inl x2, .inl x3, .inl x4, .inl 0, .inl x3]) (p' := 100) (by decide +kernel) rfl (Nat.le_of_ble_eq_true rfl) rfl ?_
      rfl
    · refine ms_iconst (n := 0) (v := 0) (p' := 84) (by decide +kernel) rfl ?_
      refine ms_iload (k := 4) (p' := 86) (by decide +kernel) rfl rfl ?_
      refine ms_iload_n (k := 3) (p' := 87) (by decide +kernel) rfl rfl ?_
      refine ms_isub (p' := 88) (by decide +kernel) rfl ?_
      refine ms_iconst (n := 1) (v := 1) (p' := 89) (by decide +kernel) rfl ?_
      refine ms_iadd (p' := 90) (by decide +kernel) rfl ?_
      refine ms_math2 (idx := 441) (k := 12) (x := 0) (q := 1026) (v := (if 0 < (mj_w ((mj_w (x4 - x3)) + 1)) then (mj_w ((mj_w (x4 - x3)) + 1)) else 0)) (p' := 93) (by decide +kernel) (Or.inl ⟨rfl, rfl⟩) rfl rfl ?_
      exact ms_iret (by decide +kernel)
  · refine ms_iload_n (k := 3) (p' := 26) (by decide +kernel) rfl rfl ?_
    refine ms_aload_n (k := 1) (p' := 27) (by decide +kernel) rfl rfl ?_
    refine ms_iload (k := 5) (p' := 29) (by decide +kernel) rfl rfl ?_
    refine ms_iald (p' := 30) (by decide +kernel) rfl hr1 (fun hj1 => ?_)
    refine ms_aload_n (k := 0) (p' := 31) (by decide +kernel) rfl rfl ?_
    refine ms_iload (k := 5) (p' := 33) (by decide +kernel) rfl rfl ?_
    refine ms_iload_n (k := 2) (p' := 34) (by decide +kernel) rfl rfl ?_
    refine ms_virt_i (idx := 308) (cy := yZ_cell) (n := 2) (a := z1) (as := [.inl x5, .inl x2]) (rest := [.inl (f r1 x5.toNat), .inl x3]) (p' := 37) (by decide +kernel) rfl rfl rfl rfl (zn_k hz1 hw) rfl (fun f2 v3 => ?_)
    refine ms_stat_i (idx := 438) (cy := yX_numberOf) (n := 1) (as := [.inl v3]) (rest := [.inl (f r1 x5.toNat), .inl x3]) (p' := 40) (by decide +kernel) rfl rfl rfl rfl rfl (fun f4 v5 => ?_)
    refine ms_isub (p' := 41) (by decide +kernel) rfl ?_
    refine ms_math2 (idx := 441) (k := 12) (x := 0) (q := 1026) (v := (if x3 < (mj_w ((f r1 x5.toNat) - v5)) then (mj_w ((f r1 x5.toNat) - v5)) else x3)) (p' := 44) (by decide +kernel) (Or.inl ⟨rfl, rfl⟩) rfl rfl ?_
    refine ms_istore_n (k := 3) (ls' := [.inr (.inl z1), .inr (.inl r1), .inl x2, .inl (if x3 < (mj_w ((f r1 x5.toNat) - v5)) then (mj_w ((f r1 x5.toNat) - v5)) else x3), .inl x4, .inl x5, .inr (.inr (.inr 0))]) (p' := 45) (by decide +kernel) rfl (Nat.le_of_ble_eq_true rfl) rfl ?_
    refine ms_iload (k := 4) (p' := 47) (by decide +kernel) rfl rfl ?_
    refine ms_aload_n (k := 1) (p' := 48) (by decide +kernel) rfl rfl ?_
    refine ms_iload (k := 5) (p' := 50) (by decide +kernel) rfl rfl ?_
    refine ms_iald (p' := 51) (by decide +kernel) rfl hr1 (fun hj6 => ?_)
    refine ms_aload_n (k := 0) (p' := 52) (by decide +kernel) rfl rfl ?_
    refine ms_iload_n (k := 2) (p' := 53) (by decide +kernel) rfl rfl ?_
    refine ms_iload (k := 5) (p' := 55) (by decide +kernel) rfl rfl ?_
    refine ms_virt_i (idx := 308) (cy := yZ_cell) (n := 2) (a := z1) (as := [.inl x2, .inl x5]) (rest := [.inl (f4 r1 x5.toNat), .inl x4]) (p' := 58) (by decide +kernel) rfl rfl rfl rfl (zn_k hz1 hw) rfl (fun f7 v8 => ?_)
    refine ms_stat_i (idx := 438) (cy := yX_numberOf) (n := 1) (as := [.inl v8]) (rest := [.inl (f4 r1 x5.toNat), .inl x4]) (p' := 61) (by decide +kernel) rfl rfl rfl rfl rfl (fun f9 v10 => ?_)
    refine ms_iadd (p' := 62) (by decide +kernel) rfl ?_
    refine ms_math2 (idx := 382) (k := 13) (x := 0) (q := 1027) (v := (if (mj_w ((f4 r1 x5.toNat) + v10)) < x4 then (mj_w ((f4 r1 x5.toNat) + v10)) else x4)) (p' := 65) (by decide +kernel) (Or.inr ⟨rfl, rfl⟩) rfl rfl ?_
    refine ms_istore (k := 4) (ls' := [.inr (.inl z1), .inr (.inl r1), .inl x2, .inl (if x3 < (mj_w ((f r1 x5.toNat) - v5)) then (mj_w ((f r1 x5.toNat) - v5)) else x3), .inl (if (mj_w ((f4 r1 x5.toNat) + v10)) < x4 then (mj_w ((f4 r1 x5.toNat) + v10)) else x4), .inl x5, .inr (.inr (.inr 0))]) (p' := 67) (by decide +kernel) rfl (Nat.le_of_ble_eq_true rfl) rfl ?_
    refine ms_iinc (k := 5) (n := 1) (ls' := [.inr (.inl z1), .inr (.inl r1), .inl x2, .inl (if x3 < (mj_w ((f r1 x5.toNat) - v5)) then (mj_w ((f r1 x5.toNat) - v5)) else x3), .inl (if (mj_w ((f4 r1 x5.toNat) + v10)) < x4 then (mj_w ((f4 r1 x5.toNat) + v10)) else x4), .inl (mj_w (x5 + 1)), .inr (.inr (.inr 0))]) (p' := 70) (by decide +kernel) rfl rfl rfl ?_
    refine ms_goto (off := (-51)) (p' := 19) (by decide +kernel) ?_
    rfl
theorem l_X_pointsFrom3_100 {sw : Bool} {w : mj_W} (hw : wk sw w) (f : mj_F) (z1 : Nat) (r1 nr1 : Nat) (x2 : Int) (x3 : Int) (x4 : Int) (x5 : Int) (x6 : Int) (hz1 : zn z1 = true) (hr1 : w.1 r1 = (100, nr1)) : mj_run yX_pointsFrom3 w f 100 [.inr (.inl z1), .inr (.inl r1), .inl x2, .inl x3, .inl x4, .inl x5, .inl x6] [] = if x4 < x6 then some (w, f, some (.inl x5)) else mj_gd (0 ≤ x2 ∧ x2 < ((nr1 : Nat) : Int)) (mj_bi (mj_call yX_pointsFrom2 w (mj_u f r1 x2.toNat x6) [.inr (.inl z1), .inr (.inl r1), .inl (mj_w (x2 + 1))]) (fun f12 v13 => mj_run yX_pointsFrom3 w f12 100 [.inr (.inl z1), .inr (.inl r1), .inl x2, .inl x3, .inl x4, .inl (mj_w (x5 + v13)), .inl (mj_w (x6 + 1))] [])) := by
  refine ms_iload (k := 6) (p' := 102) (by decide +kernel) rfl rfl ?_
  refine ms_iload (k := 4) (p' := 104) (by decide +kernel) rfl rfl ?_
  refine ms_icmp_gt (off := 27) (t := 131) (p' := 107) (by decide +kernel) rfl (fun hc => ?_) (fun hc => ?_)
  · refine ms_iload (k := 5) (p' := 133) (by decide +kernel) rfl rfl ?_
    exact ms_iret (by decide +kernel)
  · refine ms_aload_n (k := 1) (p' := 108) (by decide +kernel) rfl rfl ?_
    refine ms_iload_n (k := 2) (p' := 109) (by decide +kernel) rfl rfl ?_
    refine ms_iload (k := 6) (p' := 111) (by decide +kernel) rfl rfl ?_
    refine ms_iast (p' := 112) (by decide +kernel) rfl hr1 (fun hj11 => ?_)
    refine ms_iload (k := 5) (p' := 114) (by decide +kernel) rfl rfl ?_
    refine ms_aload_n (k := 0) (p' := 115) (by decide +kernel) rfl rfl ?_
    refine ms_aload_n (k := 1) (p' := 116) (by decide +kernel) rfl rfl ?_
    refine ms_iload_n (k := 2) (p' := 117) (by decide +kernel) rfl rfl ?_
    refine ms_iconst (n := 1) (v := 1) (p' := 118) (by decide +kernel) rfl ?_
    refine ms_iadd (p' := 119) (by decide +kernel) rfl ?_
    refine ms_stat_i (idx := 301) (cy := yX_pointsFrom2) (n := 3) (as := [.inr (.inl z1), .inr (.inl r1), .inl (mj_w (x2 + 1))]) (rest := [.inl x5]) (p' := 122) (by decide +kernel) rfl rfl rfl rfl rfl (fun f12 v13 => ?_)
    refine ms_iadd (p' := 123) (by decide +kernel) rfl ?_
    refine ms_istore (k := 5) (ls' := [.inr (.inl z1), .inr (.inl r1), .inl x2, .inl x3, .inl x4, .inl (mj_w (x5 + v13)), .inl x6]) (p' := 125) (by decide +kernel) rfl (Nat.le_of_ble_eq_true rfl) rfl ?_
    refine ms_iinc (k := 6) (n := 1) (ls' := [.inr (.inl z1), .inr (.inl r1), .inl x2, .inl x3, .inl x4, .inl (mj_w (x5 + v13)), .inl (mj_w (x6 + 1))]) (p' := 128) (by decide +kernel) rfl rfl rfl ?_
    refine ms_goto (off := (-28)) (p' := 100) (by decide +kernel) ?_
    rfl
theorem c_X_pointsFrom4 {sw : Bool} {w : mj_W} (hw : wk sw w) (f : mj_F) (z1 : Nat) (r1 nr1 : Nat) (x2 : Int) (hz1 : zn z1 = true) (hr1 : w.1 r1 = (100, nr1)) : mj_call yX_pointsFrom4 w f [.inr (.inl z1), .inr (.inl r1), .inl x2] = if x2 < (f z1 1) then mj_run yX_pointsFrom4 w f 19 [.inr (.inl z1), .inr (.inl r1), .inl x2, .inl 0, .inl 9, .inl 0, .inr (.inr (.inr 0))] [] else some (w, f, some (.inl 1)) := by
  show mj_run yX_pointsFrom4 w f 0 [.inr (.inl z1), .inr (.inl r1), .inl x2, .inr (.inr (.inr 0)), .inr (.inr (.inr 0)), .inr (.inr (.inr 0)), .inr (.inr (.inr 0))] [] = _
  refine ms_iload_n (k := 2) (p' := 1) (by decide +kernel) rfl rfl ?_
  refine ms_aload_n (k := 0) (p' := 2) (by decide +kernel) rfl rfl ?_
  refine ms_geti (idx := 284) (ci := 7) (k := 1) (q := 361) (p' := 5) (by decide +kernel) rfl (zn_k hz1 hw) ?_
  refine ms_icmp_lt (off := 5) (t := 10) (p' := 8) (by decide +kernel) rfl (fun hc => ?_) (fun hc => ?_)
  · refine ms_iconst (n := 0) (v := 0) (p' := 11) (by decide +kernel) rfl ?_
    refine ms_istore_n (k := 3) (ls' := [.inr (.inl z1), .inr (.inl r1), .inl x2, .inl 0, .inr (.inr (.inr 0)), .inr (.inr (.inr 0)), .inr (.inr (.inr 0))]) (p' := 12) (by decide +kernel) rfl (Nat.le_of_ble_eq_true rfl) rfl ?_
    refine ms_bipush (n := 9) (v := 9) (p' := 14) (by decide +kernel) rfl ?_
    refine ms_istore (k := 4) (ls' := [.inr (.inl z1), .inr (.inl r1), .inl x2, .inl 0, .inl 9, .inr (.inr (.inr 0)), .inr (.inr (.inr 0))]) (p' := 16) (by decide +kernel) rfl (Nat.le_of_ble_eq_true rfl) rfl ?_
    refine ms_iconst (n := 0) (v := 0) (p' := 17) (by decide +kernel) rfl ?_
    refine ms_istore (k := 5) (ls' := [.inr (.inl z1), .inr (.inl r1), .inl x2, .inl 0, .inl 9, .inl 0, .inr (.inr (.inr 0))]) (p' := 19) (by decide +kernel) rfl (Nat.le_of_ble_eq_true rfl) rfl ?_
    rfl
  · refine ms_iconst (n := 1) (v := 1) (p' := 9) (by decide +kernel) rfl ?_
    exact ms_iret (by decide +kernel)
theorem l_X_pointsFrom4_19 {sw : Bool} {w : mj_W} (hw : wk sw w) (f : mj_F) (z1 : Nat) (r1 nr1 : Nat) (x2 : Int) (x3 : Int) (x4 : Int) (x5 : Int) (hz1 : zn z1 = true) (hr1 : w.1 r1 = (100, nr1)) : mj_run yX_pointsFrom4 w f 19 [.inr (.inl z1), .inr (.inl r1), .inl x2, .inl x3, .inl x4, .inl x5, .inr (.inr (.inr 0))] [] = if x2 ≤ x5 then if ¬ x2 = (mj_w ((f z1 1) - 1)) then mj_run yX_pointsFrom4 w f 100 [.inr (.inl z1), .inr (.inl r1), .inl x2, .inl x3, .inl x4, .inl 0, .inl x3] [] else some (w, f, some (.inl (if 0 < (mj_w ((mj_w (x4 - x3)) + 1)) then (mj_w ((mj_w (x4 - x3)) + 1)) else 0))) else mj_gd (0 ≤ x5 ∧ x5 < ((nr1 : Nat) : Int)) (mj_bi (mj_call yZ_cell w f [.inr (.inl z1), .inl x5, .inl x2]) (fun f2 v3 => mj_bi (mj_call yX_numberOf w f2 [.inl v3]) (fun f4 v5 => mj_gd (0 ≤ x5 ∧ x5 < ((nr1 : Nat) : Int)) (mj_bi (mj_call yZ_cell w f4 [.inr (.inl z1), .inl x2, .inl x5]) (fun f7 v8 => mj_bi (mj_call yX_numberOf w f7 [.inl v8]) (fun f9 v10 => mj_run yX_pointsFrom4 w f9 19 [.inr (.inl z1), .inr (.inl r1), .inl x2, .inl (if x3 < (mj_w ((f r1 x5.toNat) - v5)) then (mj_w ((f r1 x5.toNat) - v5)) else x3), .inl (if (mj_w ((f4 r1 x5.toNat) + v10)) < x4 then (mj_w ((f4 r1 x5.toNat) + v10)) else x4), .inl (mj_w (x5 + 1)), .inr (.inr (.inr 0))] [])))))) := by
  refine ms_iload (k := 5) (p' := 21) (by decide +kernel) rfl rfl ?_
  refine ms_iload_n (k := 2) (p' := 22) (by decide +kernel) rfl rfl ?_
  refine ms_icmp_ge (off := 51) (t := 73) (p' := 25) (by decide +kernel) rfl (fun hc => ?_) (fun hc => ?_)
  · refine ms_iload_n (k := 2) (p' := 74) (by decide +kernel) rfl rfl ?_
    refine ms_aload_n (k := 0) (p' := 75) (by decide +kernel) rfl rfl ?_
    refine ms_geti (idx := 284) (ci := 7) (k := 1) (q := 361) (p' := 78) (by decide +kernel) rfl (zn_k hz1 hw) ?_
    refine ms_iconst (n := 1) (v := 1) (p' := 79) (by decide +kernel) rfl ?_
    refine ms_isub (p' := 80) (by decide +kernel) rfl ?_
    refine ms_icmp_ne (off := 14) (t := 94) (p' := 83) (by decide +kernel) rfl (fun hc => ?_) (fun hc => ?_)
    · refine ms_iconst (n := 0) (v := 0) (p' := 95) (by decide +kernel) rfl ?_
      refine ms_istore (k := 5) (ls' := [.inr (.inl z1), .inr (.inl r1), .inl x2, .inl x3, .inl x4, .inl 0, .inr (.inr (.inr 0))]) (p' := 97) (by decide +kernel) rfl (Nat.le_of_ble_eq_true rfl) rfl ?_
      refine ms_iload_n (k := 3) (p' := 98) (by decide +kernel) rfl rfl ?_
      refine ms_istore (k := 6) (ls' := [.inr (.inl z1), .inr (.inl r1), .inl x2, .inl x3, .inl x4, .inl 0, .inl x3]) (p' := 100) (by decide +kernel) rfl (Nat.le_of_ble_eq_true rfl) rfl ?_
      rfl
    · refine ms_iconst (n := 0) (v := 0) (p' := 84) (by decide +kernel) rfl ?_
      refine ms_iload (k := 4) (p' := 86) (by decide +kernel) rfl rfl ?_
      refine ms_iload_n (k := 3) (p' := 87) (by decide +kernel) rfl rfl ?_
      refine ms_isub (p' := 88) (by decide +kernel) rfl ?_
      refine ms_iconst (n := 1) (v := 1) (p' := 89) (by decide +kernel) rfl ?_
      refine ms_iadd (p' := 90) (by decide +kernel) rfl ?_
      refine ms_math2 (idx := 441) (k := 12) (x := 0) (q := 1026) (v := (if 0 < (mj_w ((mj_w (x4 - x3)) + 1)) then (mj_w ((mj_w (x4 - x3)) + 1)) else 0)) (p' := 93) (by decide +kernel) (Or.inl ⟨rfl, rfl⟩) rfl rfl ?_
      exact ms_iret (by decide +kernel)
  · refine ms_iload_n (k := 3) (p' := 26) (by decide +kernel) rfl rfl ?_
    refine ms_aload_n (k := 1) (p' := 27) (by decide +kernel) rfl rfl ?_
    refine ms_iload (k := 5) (p' := 29) (by decide +kernel) rfl rfl ?_
    refine ms_iald (p' := 30) (by decide +kernel) rfl hr1 (fun hj1 => ?_)
    refine ms_aload_n (k := 0) (p' := 31) (by decide +kernel) rfl rfl ?_
    refine ms_iload (k := 5) (p' := 33) (by decide +kernel) rfl rfl ?_
    refine ms_iload_n (k := 2) (p' := 34) (by decide +kernel) rfl rfl ?_
    refine ms_virt_i (idx := 308) (cy := yZ_cell) (n := 2) (a := z1) (as := [.inl x5, .inl x2]) (rest := [.inl (f r1 x5.toNat), .inl x3]) (p' := 37) (by decide +kernel) rfl rfl rfl rfl (zn_k hz1 hw) rfl (fun f2 v3 => ?_)
    refine ms_stat_i (idx := 438) (cy := yX_numberOf) (n := 1) (as := [.inl v3]) (rest := [.inl (f r1 x5.toNat), .inl x3]) (p' := 40) (by decide +kernel) rfl rfl rfl rfl rfl (fun f4 v5 => ?_)
    refine ms_isub (p' := 41) (by decide +kernel) rfl ?_
    refine ms_math2 (idx := 441) (k := 12) (x := 0) (q := 1026) (v := (if x3 < (mj_w ((f r1 x5.toNat) - v5)) then (mj_w ((f r1 x5.toNat) - v5)) else x3)) (p' := 44) (by decide +kernel) (Or.inl ⟨rfl, rfl⟩) rfl rfl ?_
    refine ms_istore_n (k := 3) (ls' := [.inr (.inl z1), .inr (.inl r1), .inl x2, .inl (if x3 < (mj_w ((f r1 x5.toNat) - v5)) then (mj_w ((f r1 x5.toNat) - v5)) else x3), .inl x4, .inl x5, .inr (.inr (.inr 0))]) (p' := 45) (by decide +kernel) rfl (Nat.le_of_ble_eq_true rfl) rfl ?_
    refine ms_iload (k := 4) (p' := 47) (by decide +kernel) rfl rfl ?_
    refine ms_aload_n (k := 1) (p' := 48) (by decide +kernel) rfl rfl ?_
    refine ms_iload (k := 5) (p' := 50) (by decide +kernel) rfl rfl ?_
    refine ms_iald (p' := 51) (by decide +kernel) rfl hr1 (fun hj6 => ?_)
    refine ms_aload_n (k := 0) (p' := 52) (by decide +kernel) rfl rfl ?_
    refine ms_iload_n (k := 2) (p' := 53) (by decide +kernel) rfl rfl ?_
    refine ms_iload (k := 5) (p' := 55) (by decide +kernel) rfl rfl ?_
    refine ms_virt_i (idx := 308) (cy := yZ_cell) (n := 2) (a := z1) (as := [.inl x2, .inl x5]) (rest := [.inl (f4 r1 x5.toNat), .inl x4]) (p' := 58) (by decide +kernel) rfl rfl rfl rfl (zn_k hz1 hw) rfl (fun f7 v8 => ?_)
    refine ms_stat_i (idx := 438) (cy := yX_numberOf) (n := 1) (as := [.inl v8]) (rest := [.inl (f4 r1 x5.toNat), .inl x4]) (p' := 61) (by decide +kernel) rfl rfl rfl rfl rfl (fun f9 v10 => ?_)
    refine ms_iadd (p' := 62) (by decide +kernel) rfl ?_
    refine ms_math2 (idx := 382) (k := 13) (x := 0) (q := 1027) (v := (if (mj_w ((f4 r1 x5.toNat) + v10)) < x4 then (mj_w ((f4 r1 x5.toNat) + v10)) else x4)) (p' := 65) (by decide +kernel) (Or.inr ⟨rfl, rfl⟩) rfl rfl ?_
    refine ms_istore (k := 4) (ls' := [.inr (.inl z1), .inr (.inl r1), .inl x2, .inl (if x3 < (mj_w ((f r1 x5.toNat) - v5)) then (mj_w ((f r1 x5.toNat) - v5)) else x3), .inl (if (mj_w ((f4 r1 x5.toNat) + v10)) < x4 then (mj_w ((f4 r1 x5.toNat) + v10)) else x4), .inl x5, .inr (.inr (.inr 0))]) (p' := 67) (by decide +kernel) rfl (Nat.le_of_ble_eq_true rfl) rfl ?_
    refine ms_iinc (k := 5) (n := 1) (ls' := [.inr (.inl z1), .inr (.inl r1), .inl x2, .inl (if x3 < (mj_w ((f r1 x5.toNat) - v5)) then (mj_w ((f r1 x5.toNat) - v5)) else x3), .inl (if (mj_w ((f4 r1 x5.toNat) + v10)) < x4 then (mj_w ((f4 r1 x5.toNat) + v10)) else x4), .inl (mj_w (x5 + 1)), .inr (.inr (.inr 0))]) (p' := 70) (by decide +kernel) rfl rfl rfl ?_
    refine ms_goto (off := (-51)) (p' := 19) (by decide +kernel) ?_
    rfl
theorem l_X_pointsFrom4_100 {sw : Bool} {w : mj_W} (hw : wk sw w) (f : mj_F) (z1 : Nat) (r1 nr1 : Nat) (x2 : Int) (x3 : Int) (x4 : Int) (x5 : Int) (x6 : Int) (hz1 : zn z1 = true) (hr1 : w.1 r1 = (100, nr1)) : mj_run yX_pointsFrom4 w f 100 [.inr (.inl z1), .inr (.inl r1), .inl x2, .inl x3, .inl x4, .inl x5, .inl x6] [] = if x4 < x6 then some (w, f, some (.inl x5)) else mj_gd (0 ≤ x2 ∧ x2 < ((nr1 : Nat) : Int)) (mj_bi (mj_call yX_pointsFrom3 w (mj_u f r1 x2.toNat x6) [.inr (.inl z1), .inr (.inl r1), .inl (mj_w (x2 + 1))]) (fun f12 v13 => mj_run yX_pointsFrom4 w f12 100 [.inr (.inl z1), .inr (.inl r1), .inl x2, .inl x3, .inl x4, .inl (mj_w (x5 + v13)), .inl (mj_w (x6 + 1))] [])) := by
  refine ms_iload (k := 6) (p' := 102) (by decide +kernel) rfl rfl ?_
  refine ms_iload (k := 4) (p' := 104) (by decide +kernel) rfl rfl ?_
  refine ms_icmp_gt (off := 27) (t := 131) (p' := 107) (by decide +kernel) rfl (fun hc => ?_) (fun hc => ?_)
  · refine ms_iload (k := 5) (p' := 133) (by decide +kernel) rfl rfl ?_
    exact ms_iret (by decide +kernel)
  · refine ms_aload_n (k := 1) (p' := 108) (by decide +kernel) rfl rfl ?_
    refine ms_iload_n (k := 2) (p' := 109) (by decide +kernel) rfl rfl ?_
    refine ms_iload (k := 6) (p' := 111) (by decide +kernel) rfl rfl ?_
    refine ms_iast (p' := 112) (by decide +kernel) rfl hr1 (fun hj11 => ?_)
    refine ms_iload (k := 5) (p' := 114) (by decide +kernel) rfl rfl ?_
    refine ms_aload_n (k := 0) (p' := 115) (by decide +kernel) rfl rfl ?_
    refine ms_aload_n (k := 1) (p' := 116) (by decide +kernel) rfl rfl ?_
    refine ms_iload_n (k := 2) (p' := 117) (by decide +kernel) rfl rfl ?_
    refine ms_iconst (n := 1) (v := 1) (p' := 118) (by decide +kernel) rfl ?_
    refine ms_iadd (p' := 119) (by decide +kernel) rfl ?_
    refine ms_stat_i (idx := 301) (cy := yX_pointsFrom3) (n := 3) (as := [.inr (.inl z1), .inr (.inl r1), .inl (mj_w (x2 + 1))]) (rest := [.inl x5]) (p' := 122) (by decide +kernel) rfl rfl rfl rfl rfl (fun f12 v13 => ?_)
    refine ms_iadd (p' := 123) (by decide +kernel) rfl ?_
    refine ms_istore (k := 5) (ls' := [.inr (.inl z1), .inr (.inl r1), .inl x2, .inl x3, .inl x4, .inl (mj_w (x5 + v13)), .inl x6]) (p' := 125) (by decide +kernel) rfl (Nat.le_of_ble_eq_true rfl) rfl ?_
    refine ms_iinc (k := 6) (n := 1) (ls' := [.inr (.inl z1), .inr (.inl r1), .inl x2, .inl x3, .inl x4, .inl (mj_w (x5 + v13)), .inl (mj_w (x6 + 1))]) (p' := 128) (by decide +kernel) rfl rfl rfl ?_
    refine ms_goto (off := (-28)) (p' := 100) (by decide +kernel) ?_
    rfl
theorem c_X_pointsFrom5 {sw : Bool} {w : mj_W} (hw : wk sw w) (f : mj_F) (z1 : Nat) (r1 nr1 : Nat) (x2 : Int) (hz1 : zn z1 = true) (hr1 : w.1 r1 = (100, nr1)) : mj_call yX_pointsFrom5 w f [.inr (.inl z1), .inr (.inl r1), .inl x2] = if x2 < (f z1 1) then mj_run yX_pointsFrom5 w f 19 [.inr (.inl z1), .inr (.inl r1), .inl x2, .inl 0, .inl 9, .inl 0, .inr (.inr (.inr 0))] [] else some (w, f, some (.inl 1)) := by
  show mj_run yX_pointsFrom5 w f 0 [.inr (.inl z1), .inr (.inl r1), .inl x2, .inr (.inr (.inr 0)), .inr (.inr (.inr 0)), .inr (.inr (.inr 0)), .inr (.inr (.inr 0))] [] = _
  refine ms_iload_n (k := 2) (p' := 1) (by decide +kernel) rfl rfl ?_
  refine ms_aload_n (k := 0) (p' := 2) (by decide +kernel) rfl rfl ?_
  refine ms_geti (idx := 284) (ci := 7) (k := 1) (q := 361) (p' := 5) (by decide +kernel) rfl (zn_k hz1 hw) ?_
  refine ms_icmp_lt (off := 5) (t := 10) (p' := 8) (by decide +kernel) rfl (fun hc => ?_) (fun hc => ?_)
  · refine ms_iconst (n := 0) (v := 0) (p' := 11) (by decide +kernel) rfl ?_
    refine ms_istore_n (k := 3) (ls' := [.inr (.inl z1), .inr (.inl r1), .inl x2, .inl 0, .inr (.inr (.inr 0)), .inr (.inr (.inr 0)), .inr (.inr (.inr 0))]) (p' := 12) (by decide +kernel) rfl (Nat.le_of_ble_eq_true rfl) rfl ?_
    refine ms_bipush (n := 9) (v := 9) (p' := 14) (by decide +kernel) rfl ?_
    refine ms_istore (k := 4) (ls' := [.inr (.inl z1), .inr (.inl r1), .inl x2, .inl 0, .inl 9, .inr (.inr (.inr 0)), .inr (.inr (.inr 0))]) (p' := 16) (by decide +kernel) rfl (Nat.le_of_ble_eq_true rfl) rfl ?_
    refine ms_iconst (n := 0) (v := 0) (p' := 17) (by decide +kernel) rfl ?_
    refine ms_istore (k := 5) (ls' := [.inr (.inl z1), .inr (.inl r1), .inl x2, .inl 0, .inl 9, .inl 0, .inr (.inr (.inr 0))]) (p' := 19) (by decide +kernel) rfl (Nat.le_of_ble_eq_true rfl) rfl ?_
    rfl
  · refine ms_iconst (n := 1) (v := 1) (p' := 9) (by decide +kernel) rfl ?_
    exact ms_iret (by decide +kernel)
theorem l_X_pointsFrom5_19 {sw : Bool} {w : mj_W} (hw : wk sw w) (f : mj_F) (z1 : Nat) (r1 nr1 : Nat) (x2 : Int) (x3 : Int) (x4 : Int) (x5 : Int) (hz1 : zn z1 = true) (hr1 : w.1 r1 = (100, nr1)) : mj_run yX_pointsFrom5 w f 19 [.inr (.inl z1), .inr (.inl r1), .inl x2, .inl x3, .inl x4, .inl x5, .inr (.inr (.inr 0))] [] = if x2 ≤ x5 then if ¬ x2 = (mj_w ((f z1 1) - 1)) then mj_run yX_pointsFrom5 w f 100 [.inr (.inl z1), .inr (.inl r1), .inl x2, .inl x3, .inl x4, .inl 0, .inl x3] [] else some (w, f, some (.inl (if 0 < (mj_w ((mj_w (x4 - x3)) + 1)) then (mj_w ((mj_w (x4 - x3)) + 1)) else 0))) else mj_gd (0 ≤ x5 ∧ x5 < ((nr1 : Nat) : Int)) (mj_bi (mj_call yZ_cell w f [.inr (.inl z1), .inl x5, .inl x2]) (fun f2 v3 => mj_bi (mj_call yX_numberOf w f2 [.inl v3]) (fun f4 v5 => mj_gd (0 ≤ x5 ∧ x5 < ((nr1 : Nat) : Int)) (mj_bi (mj_call yZ_cell w f4 [.inr (.inl z1), .inl x2, .inl x5]) (fun f7 v8 => mj_bi (mj_call yX_numberOf w f7 [.inl v8]) (fun f9 v10 => mj_run yX_pointsFrom5 w f9 19 [.inr (.inl z1), .inr (.inl r1), .inl x2, .inl (if x3 < (mj_w ((f r1 x5.toNat) - v5)) then (mj_w ((f r1 x5.toNat) - v5)) else x3), .inl (if (mj_w ((f4 r1 x5.toNat) + v10)) < x4 then (mj_w ((f4 r1 x5.toNat) + v10)) else x4), .inl (mj_w (x5 + 1)), .inr (.inr (.inr 0))] [])))))) := by
  refine ms_iload (k := 5) (p' := 21) (by decide +kernel) rfl rfl ?_
  refine ms_iload_n (k := 2) (p' := 22) (by decide +kernel) rfl rfl ?_
  refine ms_icmp_ge (off := 51) (t := 73) (p' := 25) (by decide +kernel) rfl (fun hc => ?_) (fun hc => ?_)
  · refine ms_iload_n (k := 2) (p' := 74) (by decide +kernel) rfl rfl ?_
    refine ms_aload_n (k := 0) (p' := 75) (by decide +kernel) rfl rfl ?_
    refine ms_geti (idx := 284) (ci := 7) (k := 1) (q := 361) (p' := 78) (by decide +kernel) rfl (zn_k hz1 hw) ?_
    refine ms_iconst (n := 1) (v := 1) (p' := 79) (by decide +kernel) rfl ?_
    refine ms_isub (p' := 80) (by decide +kernel) rfl ?_
    refine ms_icmp_ne (off := 14) (t := 94) (p' := 83) (by decide +kernel) rfl (fun hc => ?_) (fun hc => ?_)
    · refine ms_iconst (n := 0) (v := 0) (p' := 95) (by decide +kernel) rfl ?_
      refine ms_istore (k := 5) (ls' := [.inr (.inl z1), .inr (.inl r1), .inl x2, .inl x3, .inl x4, .inl 0, .inr (.inr (.inr 0))]) (p' := 97) (by decide +kernel) rfl (Nat.le_of_ble_eq_true rfl) rfl ?_
      refine ms_iload_n (k := 3) (p' := 98) (by decide +kernel) rfl rfl ?_
      refine ms_istore (k := 6) (ls' := [.inr (.inl z1), .inr (.inl r1), .inl x2, .inl x3, .inl x4, .inl 0, .inl x3]) (p' := 100) (by decide +kernel) rfl (Nat.le_of_ble_eq_true rfl) rfl ?_
      rfl
    · refine ms_iconst (n := 0) (v := 0) (p' := 84) (by decide +kernel) rfl ?_
      refine ms_iload (k := 4) (p' := 86) (by decide +kernel) rfl rfl ?_
      refine ms_iload_n (k := 3) (p' := 87) (by decide +kernel) rfl rfl ?_
      refine ms_isub (p' := 88) (by decide +kernel) rfl ?_
      refine ms_iconst (n := 1) (v := 1) (p' := 89) (by decide +kernel) rfl ?_
      refine ms_iadd (p' := 90) (by decide +kernel) rfl ?_
      refine ms_math2 (idx := 441) (k := 12) (x := 0) (q := 1026) (v := (if 0 < (mj_w ((mj_w (x4 - x3)) + 1)) then (mj_w ((mj_w (x4 - x3)) + 1)) else 0)) (p' := 93) (by decide +kernel) (Or.inl ⟨rfl, rfl⟩) rfl rfl ?_
      exact ms_iret (by decide +kernel)
  · refine ms_iload_n (k := 3) (p' := 26) (by decide +kernel) rfl rfl ?_
    refine ms_aload_n (k := 1) (p' := 27) (by decide +kernel) rfl rfl ?_
    refine ms_iload (k := 5) (p' := 29) (by decide +kernel) rfl rfl ?_
    refine ms_iald (p' := 30) (by decide +kernel) rfl hr1 (fun hj1 => ?_)
    refine ms_aload_n (k := 0) (p' := 31) (by decide +kernel) rfl rfl ?_
    refine ms_iload (k := 5) (p' := 33) (by decide +kernel) rfl rfl ?_
    refine ms_iload_n (k := 2) (p' := 34) (by decide +kernel) rfl rfl ?_
    refine ms_virt_i (idx := 308) (cy := yZ_cell) (n := 2) (a := z1) (as := [.inl x5, .inl x2]) (rest := [.inl (f r1 x5.toNat), .inl x3]) (p' := 37) (by decide +kernel) rfl rfl rfl rfl (zn_k hz1 hw) rfl (fun f2 v3 => ?_)
    refine ms_stat_i (idx := 438) (cy := yX_numberOf) (n := 1) (as := [.inl v3]) (rest := [.inl (f r1 x5.toNat), .inl x3]) (p' := 40) (by decide +kernel) rfl rfl rfl rfl rfl (fun f4 v5 => ?_)
    refine ms_isub (p' := 41) (by decide +kernel) rfl ?_
    refine ms_math2 (idx := 441) (k := 12) (x := 0) (q := 1026) (v := (if x3 < (mj_w ((f r1 x5.toNat) - v5)) then (mj_w ((f r1 x5.toNat) - v5)) else x3)) (p' := 44) (by decide +kernel) (Or.inl ⟨rfl, rfl⟩) rfl rfl ?_
    refine ms_istore_n (k := 3) (ls' := [.inr (.inl z1), .inr (.inl r1), .inl x2, .inl (if x3 < (mj_w ((f r1 x5.toNat) - v5)) then (mj_w ((f r1 x5.toNat) - v5)) else x3), .inl x4, .inl x5, .inr (.inr (.inr 0))]) (p' := 45) (by decide +kernel) rfl (Nat.le_of_ble_eq_true rfl) rfl ?_
    refine ms_iload (k := 4) (p' := 47) (by decide +kernel) rfl rfl ?_
    refine ms_aload_n (k := 1) (p' := 48) (by decide +kernel) rfl rfl ?_
    refine ms_iload (k := 5) (p' := 50) (by decide +kernel) rfl rfl ?_
    refine ms_iald (p' := 51) (by decide +kernel) rfl hr1 (fun hj6 => ?_)
    refine ms_aload_n (k := 0) (p' := 52) (by decide +kernel) rfl rfl ?_
    refine ms_iload_n (k := 2) (p' := 53) (by decide +kernel) rfl rfl ?_
    refine ms_iload (k := 5) (p' := 55) (by decide +kernel) rfl rfl ?_
    refine ms_virt_i (idx := 308) (cy := yZ_cell) (n := 2) (a := z1) (as := [.inl x2, .inl x5]) (rest := [.inl (f4 r1 x5.toNat), .inl x4]) (p' := 58) (by decide +kernel) rfl rfl rfl rfl (zn_k hz1 hw) rfl (fun f7 v8 => ?_)
    refine ms_stat_i (idx := 438) (cy := yX_numberOf) (n := 1) (as := [.inl v8]) (rest := [.inl (f4 r1 x5.toNat), .inl x4]) (p' := 61) (by decide +kernel) rfl rfl rfl rfl rfl (fun f9 v10 => ?_)
    refine ms_iadd (p' := 62) (by decide +kernel) rfl ?_
    refine ms_math2 (idx := 382) (k := 13) (x := 0) (q := 1027) (v := (if (mj_w ((f4 r1 x5.toNat) + v10)) < x4 then (mj_w ((f4 r1 x5.toNat) + v10)) else x4)) (p' := 65) (by decide +kernel) (Or.inr ⟨rfl, rfl⟩) rfl rfl ?_
    refine ms_istore (k := 4) (ls' := [.inr (.inl z1), .inr (.inl r1), .inl x2, .inl (if x3 < (mj_w ((f r1 x5.toNat) - v5)) then (mj_w ((f r1 x5.toNat) - v5)) else x3), .inl (if (mj_w ((f4 r1 x5.toNat) + v10)) < x4 then (mj_w ((f4 r1 x5.toNat) + v10)) else x4), .inl x5, .inr (.inr (.inr 0))]) (p' := 67) (by decide +kernel) rfl (Nat.le_of_ble_eq_true rfl) rfl ?_
    refine ms_iinc (k := 5) (n := 1) (ls' := [.inr (.inl z1), .inr (.inl r1), .inl x2, .inl (if x3 < (mj_w ((f r1 x5.toNat) - v5)) then (mj_w ((f r1 x5.toNat) - v5)) else x3), .inl (if (mj_w ((f4 r1 x5.toNat) + v10)) < x4 then (mj_w ((f4 r1 x5.toNat) + v10)) else x4), .inl (mj_w (x5 + 1)), .inr (.inr (.inr 0))]) (p' := 70) (by decide +kernel) rfl rfl rfl ?_
    refine ms_goto (off := (-51)) (p' := 19) (by decide +kernel) ?_
    rfl
theorem l_X_pointsFrom5_100 {sw : Bool} {w : mj_W} (hw : wk sw w) (f : mj_F) (z1 : Nat) (r1 nr1 : Nat) (x2 : Int) (x3 : Int) (x4 : Int) (x5 : Int) (x6 : Int) (hz1 : zn z1 = true) (hr1 : w.1 r1 = (100, nr1)) : mj_run yX_pointsFrom5 w f 100 [.inr (.inl z1), .inr (.inl r1), .inl x2, .inl x3, .inl x4, .inl x5, .inl x6] [] = if x4 < x6 then some (w, f, some (.inl x5)) else mj_gd (0 ≤ x2 ∧ x2 < ((nr1 : Nat) : Int)) (mj_bi (mj_call yX_pointsFrom4 w (mj_u f r1 x2.toNat x6) [.inr (.inl z1), .inr (.inl r1), .inl (mj_w (x2 + 1))]) (fun f12 v13 => mj_run yX_pointsFrom5 w f12 100 [.inr (.inl z1), .inr (.inl r1), .inl x2, .inl x3, .inl x4, .inl (mj_w (x5 + v13)), .inl (mj_w (x6 + 1))] [])) := by
  refine ms_iload (k := 6) (p' := 102) (by decide +kernel) rfl rfl ?_
  refine ms_iload (k := 4) (p' := 104) (by decide +kernel) rfl rfl ?_
  refine ms_icmp_gt (off := 27) (t := 131) (p' := 107) (by decide +kernel) rfl (fun hc => ?_) (fun hc => ?_)
  · refine ms_iload (k := 5) (p' := 133) (by decide +kernel) rfl rfl ?_
    exact ms_iret (by decide +kernel)
  · refine ms_aload_n (k := 1) (p' := 108) (by decide +kernel) rfl rfl ?_
    refine ms_iload_n (k := 2) (p' := 109) (by decide +kernel) rfl rfl ?_
    refine ms_iload (k := 6) (p' := 111) (by decide +kernel) rfl rfl ?_
    refine ms_iast (p' := 112) (by decide +kernel) rfl hr1 (fun hj11 => ?_)
    refine ms_iload (k := 5) (p' := 114) (by decide +kernel) rfl rfl ?_
    refine ms_aload_n (k := 0) (p' := 115) (by decide +kernel) rfl rfl ?_
    refine ms_aload_n (k := 1) (p' := 116) (by decide +kernel) rfl rfl ?_
    refine ms_iload_n (k := 2) (p' := 117) (by decide +kernel) rfl rfl ?_
    refine ms_iconst (n := 1) (v := 1) (p' := 118) (by decide +kernel) rfl ?_
    refine ms_iadd (p' := 119) (by decide +kernel) rfl ?_
    refine ms_stat_i (idx := 301) (cy := yX_pointsFrom4) (n := 3) (as := [.inr (.inl z1), .inr (.inl r1), .inl (mj_w (x2 + 1))]) (rest := [.inl x5]) (p' := 122) (by decide +kernel) rfl rfl rfl rfl rfl (fun f12 v13 => ?_)
    refine ms_iadd (p' := 123) (by decide +kernel) rfl ?_
    refine ms_istore (k := 5) (ls' := [.inr (.inl z1), .inr (.inl r1), .inl x2, .inl x3, .inl x4, .inl (mj_w (x5 + v13)), .inl x6]) (p' := 125) (by decide +kernel) rfl (Nat.le_of_ble_eq_true rfl) rfl ?_
    refine ms_iinc (k := 6) (n := 1) (ls' := [.inr (.inl z1), .inr (.inl r1), .inl x2, .inl x3, .inl x4, .inl (mj_w (x5 + v13)), .inl (mj_w (x6 + 1))]) (p' := 128) (by decide +kernel) rfl rfl rfl ?_
    refine ms_goto (off := (-28)) (p' := 100) (by decide +kernel) ?_
    rfl
theorem c_X_whole {sw : Bool} {w : mj_W} (hw : wk sw w) (f : mj_F) (x1 : Int) (x2 : Int)  : mj_call yX_whole w f [.inr (.inl 2), .inl x1, .inl x2] = mj_bi (mj_call yX_isTable w f [.inl x1]) (fun f1 v2 => if v2 = 0 then some (w, f1, some (.inl (-1))) else if x2 < 0 then some (w, f1, some (.inl (-1))) else if x2 ≤ 9 then mj_gd (0 ≤ x1 ∧ x1 < ((4 : Nat) : Int)) (mj_bu (mj_call yZ_become w f1 [.inr (.inl 32), .inr (.inl (215 + 2 * x1.toNat))]) (fun f4 => mj_run yX_whole w f4 34 [.inr (.inl 2), .inl x1, .inl x2, .inl 1] [])) else some (w, f1, some (.inl (-1)))) := by
  show mj_run yX_whole w f 0 [.inr (.inl 2), .inl x1, .inl x2, .inr (.inr (.inr 0))] [] = _
  refine ms_iload_n (k := 1) (p' := 1) (by decide +kernel) rfl rfl ?_
  refine ms_stat_i (idx := 182) (cy := yX_isTable) (n := 1) (as := [.inl x1]) (rest := []) (p' := 4) (by decide +kernel) rfl rfl rfl rfl rfl (fun f1 v2 => ?_)
  refine ms_if_eq (off := 13) (t := 17) (p' := 7) (by decide +kernel) rfl (fun hc => ?_) (fun hc => ?_)
  · refine ms_iconst (n := (-1)) (v := (-1)) (p' := 18) (by decide +kernel) rfl ?_
    exact ms_iret (by decide +kernel)
  · refine ms_iload_n (k := 2) (p' := 8) (by decide +kernel) rfl rfl ?_
    refine ms_if_lt (off := 9) (t := 17) (p' := 11) (by decide +kernel) rfl (fun hc => ?_) (fun hc => ?_)
    · refine ms_iconst (n := (-1)) (v := (-1)) (p' := 18) (by decide +kernel) rfl ?_
      exact ms_iret (by decide +kernel)
    · refine ms_iload_n (k := 2) (p' := 12) (by decide +kernel) rfl rfl ?_
      refine ms_bipush (n := 9) (v := 9) (p' := 14) (by decide +kernel) rfl ?_
      refine ms_icmp_le (off := 5) (t := 19) (p' := 17) (by decide +kernel) rfl (fun hc => ?_) (fun hc => ?_)
      · refine ms_aload_n (k := 0) (p' := 20) (by decide +kernel) rfl rfl ?_
        refine ms_getr (idx := 30) (ci := 8) (k := 3) (q := 521) (p' := 23) (by decide +kernel) rfl (k_2 hw) (r_2_3 hw) (by decide) ?_
        refine ms_aload_n (k := 0) (p' := 24) (by decide +kernel) rfl rfl ?_
        refine ms_getr (idx := 25) (ci := 8) (k := 2) (q := 520) (p' := 27) (by decide +kernel) rfl (k_2 hw) (r_2_2 hw) (by decide) ?_
        refine ms_iload_n (k := 1) (p' := 28) (by decide +kernel) rfl rfl ?_
        refine ms_aald (p' := 29) (by decide +kernel) rfl (k_31 hw) (rz31 hw) (fun hj3 => ?_)
        refine ms_virt_u (idx := 204) (cy := yZ_become) (n := 1) (a := 32) (as := [.inr (.inl (215 + 2 * x1.toNat))]) (rest := []) (p' := 32) (by decide +kernel) rfl rfl rfl rfl (zn_k zn32 hw) rfl (fun f4 => ?_)
        refine ms_iconst (n := 1) (v := 1) (p' := 33) (by decide +kernel) rfl ?_
        refine ms_istore_n (k := 3) (ls' := [.inr (.inl 2), .inl x1, .inl x2, .inl 1]) (p' := 34) (by decide +kernel) rfl (Nat.le_of_ble_eq_true rfl) rfl ?_
        rfl
      · refine ms_iconst (n := (-1)) (v := (-1)) (p' := 18) (by decide +kernel) rfl ?_
        exact ms_iret (by decide +kernel)
theorem l_X_whole_34 {sw : Bool} {w : mj_W} (hw : wk sw w) (f : mj_F) (x1 : Int) (x2 : Int) (x3 : Int)  : mj_run yX_whole w f 34 [.inr (.inl 2), .inl x1, .inl x2, .inl x3] [] = if (f 32 1) ≤ x3 then mj_bu (mj_call yZ_keepWhole w f [.inr (.inl 32)]) (fun f5 => if (f5 32 2) = 0 then mj_bi (mj_call yX_pointsFrom5 w (mj_u f5 36 (0 : Int).toNat 0) [.inr (.inl 32), .inr (.inl 36), .inl 1]) (fun f7 v8 => some (w, f7, some (.inl v8))) else some (w, f5, some (.inl 0))) else mj_bi (mj_call yX_atMost w f [.inl x2]) (fun f9 v10 => mj_bu (mj_call yZ_tighten w f9 [.inr (.inl 32), .inl x3, .inl 0, .inl v10]) (fun f11 => mj_run yX_whole w f11 34 [.inr (.inl 2), .inl x1, .inl x2, .inl (mj_w (x3 + 1))] [])) := by
  refine ms_iload_n (k := 3) (p' := 35) (by decide +kernel) rfl rfl ?_
  refine ms_aload_n (k := 0) (p' := 36) (by decide +kernel) rfl rfl ?_
  refine ms_getr (idx := 30) (ci := 8) (k := 3) (q := 521) (p' := 39) (by decide +kernel) rfl (k_2 hw) (r_2_3 hw) (by decide) ?_
  refine ms_geti (idx := 284) (ci := 7) (k := 1) (q := 361) (p' := 42) (by decide +kernel) rfl (zn_k zn32 hw) ?_
  refine ms_icmp_ge (off := 22) (t := 64) (p' := 45) (by decide +kernel) rfl (fun hc => ?_) (fun hc => ?_)
  · refine ms_aload_n (k := 0) (p' := 65) (by decide +kernel) rfl rfl ?_
    refine ms_getr (idx := 30) (ci := 8) (k := 3) (q := 521) (p' := 68) (by decide +kernel) rfl (k_2 hw) (r_2_3 hw) (by decide) ?_
    refine ms_virt_u (idx := 298) (cy := yZ_keepWhole) (n := 0) (a := 32) (as := []) (rest := []) (p' := 71) (by decide +kernel) rfl rfl rfl rfl (zn_k zn32 hw) rfl (fun f5 => ?_)
    refine ms_aload_n (k := 0) (p' := 72) (by decide +kernel) rfl rfl ?_
    refine ms_getr (idx := 30) (ci := 8) (k := 3) (q := 521) (p' := 75) (by decide +kernel) rfl (k_2 hw) (r_2_3 hw) (by decide) ?_
    refine ms_geti (idx := 273) (ci := 7) (k := 2) (q := 365) (p' := 78) (by decide +kernel) rfl (zn_k zn32 hw) ?_
    refine ms_if_eq (off := 5) (t := 83) (p' := 81) (by decide +kernel) rfl (fun hc => ?_) (fun hc => ?_)
    · refine ms_aload_n (k := 0) (p' := 84) (by decide +kernel) rfl rfl ?_
      refine ms_getr (idx := 37) (ci := 8) (k := 5) (q := 523) (p' := 87) (by decide +kernel) rfl (k_2 hw) (r_2_5 hw) (by decide) ?_
      refine ms_iconst (n := 0) (v := 0) (p' := 88) (by decide +kernel) rfl ?_
      refine ms_iconst (n := 0) (v := 0) (p' := 89) (by decide +kernel) rfl ?_
      refine Eq.trans (ms_iast (p' := 90) (by decide +kernel) rfl (k_36 hw) (fun hj6 => ?_)) (mj_gd_pos (by decide) _)
      refine ms_aload_n (k := 0) (p' := 91) (by decide +kernel) rfl rfl ?_
      refine ms_getr (idx := 30) (ci := 8) (k := 3) (q := 521) (p' := 94) (by decide +kernel) rfl (k_2 hw) (r_2_3 hw) (by decide) ?_
      refine ms_aload_n (k := 0) (p' := 95) (by decide +kernel) rfl rfl ?_
      refine ms_getr (idx := 37) (ci := 8) (k := 5) (q := 523) (p' := 98) (by decide +kernel) rfl (k_2 hw) (r_2_5 hw) (by decide) ?_
      refine ms_iconst (n := 1) (v := 1) (p' := 99) (by decide +kernel) rfl ?_
      refine ms_stat_i (idx := 301) (cy := yX_pointsFrom5) (n := 3) (as := [.inr (.inl 32), .inr (.inl 36), .inl 1]) (rest := []) (p' := 102) (by decide +kernel) rfl rfl rfl rfl rfl (fun f7 v8 => ?_)
      exact ms_iret (by decide +kernel)
    · refine ms_iconst (n := 0) (v := 0) (p' := 82) (by decide +kernel) rfl ?_
      exact ms_iret (by decide +kernel)
  · refine ms_aload_n (k := 0) (p' := 46) (by decide +kernel) rfl rfl ?_
    refine ms_getr (idx := 30) (ci := 8) (k := 3) (q := 521) (p' := 49) (by decide +kernel) rfl (k_2 hw) (r_2_3 hw) (by decide) ?_
    refine ms_iload_n (k := 3) (p' := 50) (by decide +kernel) rfl rfl ?_
    refine ms_iconst (n := 0) (v := 0) (p' := 51) (by decide +kernel) rfl ?_
    refine ms_iload_n (k := 2) (p' := 52) (by decide +kernel) rfl rfl ?_
    refine ms_stat_i (idx := 291) (cy := yX_atMost) (n := 1) (as := [.inl x2]) (rest := [.inl 0, .inl x3, .inr (.inl 32)]) (p' := 55) (by decide +kernel) rfl rfl rfl rfl rfl (fun f9 v10 => ?_)
    refine ms_virt_u (idx := 294) (cy := yZ_tighten) (n := 3) (a := 32) (as := [.inl x3, .inl 0, .inl v10]) (rest := []) (p' := 58) (by decide +kernel) rfl rfl rfl rfl (zn_k zn32 hw) rfl (fun f11 => ?_)
    refine ms_iinc (k := 3) (n := 1) (ls' := [.inr (.inl 2), .inl x1, .inl x2, .inl (mj_w (x3 + 1))]) (p' := 61) (by decide +kernel) rfl rfl rfl ?_
    refine ms_goto (off := (-27)) (p' := 34) (by decide +kernel) ?_
    rfl
theorem c_X_first {sw : Bool} {w : mj_W} (hw : wk sw w) (f : mj_F) (x1 : Int) (x2 : Int)  : mj_call yX_first w f [.inr (.inl 2), .inl x1, .inl x2] = mj_bi (mj_call yX_isTable w f [.inl x1]) (fun f1 v2 => if v2 = 0 then some (w, f1, some (.inl (-1))) else mj_bi (mj_call yX_isClock w f1 [.inr (.inl 2), .inl x2]) (fun f3 v4 => if ¬ v4 = 0 then mj_gd (0 ≤ x1 ∧ x1 < ((4 : Nat) : Int)) (mj_bu (mj_call yZ_become w f3 [.inr (.inl 32), .inr (.inl (215 + 2 * x1.toNat))]) (fun f6 => mj_bu (mj_call yZ_keepWhole w f6 [.inr (.inl 32)]) (fun f7 => if (f7 32 2) = 0 then mj_run yX_first w f7 52 [.inr (.inl 2), .inl x1, .inl x2, .inl 1] [] else some (w, f7, some (.inl (-2)))))) else some (w, f3, some (.inl (-1))))) := by
  show mj_run yX_first w f 0 [.inr (.inl 2), .inl x1, .inl x2, .inr (.inr (.inr 0))] [] = _
  refine ms_iload_n (k := 1) (p' := 1) (by decide +kernel) rfl rfl ?_
  refine ms_stat_i (idx := 182) (cy := yX_isTable) (n := 1) (as := [.inl x1]) (rest := []) (p' := 4) (by decide +kernel) rfl rfl rfl rfl rfl (fun f1 v2 => ?_)
  refine ms_if_eq (off := 11) (t := 15) (p' := 7) (by decide +kernel) rfl (fun hc => ?_) (fun hc => ?_)
  · refine ms_iconst (n := (-1)) (v := (-1)) (p' := 16) (by decide +kernel) rfl ?_
    exact ms_iret (by decide +kernel)
  · refine ms_aload_n (k := 0) (p' := 8) (by decide +kernel) rfl rfl ?_
    refine ms_iload_n (k := 2) (p' := 9) (by decide +kernel) rfl rfl ?_
    refine ms_virt_i (idx := 176) (cy := yX_isClock) (n := 1) (a := 2) (as := [.inl x2]) (rest := []) (p' := 12) (by decide +kernel) rfl rfl rfl rfl (k_2 hw) rfl (fun f3 v4 => ?_)
    refine ms_if_ne (off := 5) (t := 17) (p' := 15) (by decide +kernel) rfl (fun hc => ?_) (fun hc => ?_)
    · refine ms_aload_n (k := 0) (p' := 18) (by decide +kernel) rfl rfl ?_
      refine ms_getr (idx := 30) (ci := 8) (k := 3) (q := 521) (p' := 21) (by decide +kernel) rfl (k_2 hw) (r_2_3 hw) (by decide) ?_
      refine ms_aload_n (k := 0) (p' := 22) (by decide +kernel) rfl rfl ?_
      refine ms_getr (idx := 25) (ci := 8) (k := 2) (q := 520) (p' := 25) (by decide +kernel) rfl (k_2 hw) (r_2_2 hw) (by decide) ?_
      refine ms_iload_n (k := 1) (p' := 26) (by decide +kernel) rfl rfl ?_
      refine ms_aald (p' := 27) (by decide +kernel) rfl (k_31 hw) (rz31 hw) (fun hj5 => ?_)
      refine ms_virt_u (idx := 204) (cy := yZ_become) (n := 1) (a := 32) (as := [.inr (.inl (215 + 2 * x1.toNat))]) (rest := []) (p' := 30) (by decide +kernel) rfl rfl rfl rfl (zn_k zn32 hw) rfl (fun f6 => ?_)
      refine ms_aload_n (k := 0) (p' := 31) (by decide +kernel) rfl rfl ?_
      refine ms_getr (idx := 30) (ci := 8) (k := 3) (q := 521) (p' := 34) (by decide +kernel) rfl (k_2 hw) (r_2_3 hw) (by decide) ?_
      refine ms_virt_u (idx := 298) (cy := yZ_keepWhole) (n := 0) (a := 32) (as := []) (rest := []) (p' := 37) (by decide +kernel) rfl rfl rfl rfl (zn_k zn32 hw) rfl (fun f7 => ?_)
      refine ms_aload_n (k := 0) (p' := 38) (by decide +kernel) rfl rfl ?_
      refine ms_getr (idx := 30) (ci := 8) (k := 3) (q := 521) (p' := 41) (by decide +kernel) rfl (k_2 hw) (r_2_3 hw) (by decide) ?_
      refine ms_geti (idx := 273) (ci := 7) (k := 2) (q := 365) (p' := 44) (by decide +kernel) rfl (zn_k zn32 hw) ?_
      refine ms_if_eq (off := 6) (t := 50) (p' := 47) (by decide +kernel) rfl (fun hc => ?_) (fun hc => ?_)
      · refine ms_iconst (n := 1) (v := 1) (p' := 51) (by decide +kernel) rfl ?_
        refine ms_istore_n (k := 3) (ls' := [.inr (.inl 2), .inl x1, .inl x2, .inl 1]) (p' := 52) (by decide +kernel) rfl (Nat.le_of_ble_eq_true rfl) rfl ?_
        rfl
      · refine ms_bipush (n := (-2)) (v := (-2)) (p' := 49) (by decide +kernel) rfl ?_
        exact ms_iret (by decide +kernel)
    · refine ms_iconst (n := (-1)) (v := (-1)) (p' := 16) (by decide +kernel) rfl ?_
      exact ms_iret (by decide +kernel)
theorem l_X_first_52 {sw : Bool} {w : mj_W} (hw : wk sw w) (f : mj_F) (x1 : Int) (x2 : Int) (x3 : Int)  : mj_run yX_first w f 52 [.inr (.inl 2), .inl x1, .inl x2, .inl x3] [] = if (f 32 1) ≤ x3 then mj_bi (mj_call yZ_leastOf w f [.inr (.inl 32), .inl (mj_w (x2 + 1))]) (fun f8 v9 => some (w, f8, some (.inl v9))) else mj_bi (mj_call yZ_leastOf w f [.inr (.inl 32), .inl x3]) (fun f10 v11 => if v11 ≤ 100 then mj_run yX_first w f10 52 [.inr (.inl 2), .inl x1, .inl x2, .inl (mj_w (x3 + 1))] [] else some (w, f10, some (.inl (-2)))) := by
  refine ms_iload_n (k := 3) (p' := 53) (by decide +kernel) rfl rfl ?_
  refine ms_aload_n (k := 0) (p' := 54) (by decide +kernel) rfl rfl ?_
  refine ms_getr (idx := 30) (ci := 8) (k := 3) (q := 521) (p' := 57) (by decide +kernel) rfl (k_2 hw) (r_2_3 hw) (by decide) ?_
  refine ms_geti (idx := 284) (ci := 7) (k := 1) (q := 361) (p' := 60) (by decide +kernel) rfl (zn_k zn32 hw) ?_
  refine ms_icmp_ge (off := 25) (t := 85) (p' := 63) (by decide +kernel) rfl (fun hc => ?_) (fun hc => ?_)
  · refine ms_aload_n (k := 0) (p' := 86) (by decide +kernel) rfl rfl ?_
    refine ms_getr (idx := 30) (ci := 8) (k := 3) (q := 521) (p' := 89) (by decide +kernel) rfl (k_2 hw) (r_2_3 hw) (by decide) ?_
    refine ms_iload_n (k := 2) (p' := 90) (by decide +kernel) rfl rfl ?_
    refine ms_iconst (n := 1) (v := 1) (p' := 91) (by decide +kernel) rfl ?_
    refine ms_iadd (p' := 92) (by decide +kernel) rfl ?_
    refine ms_virt_i (idx := 305) (cy := yZ_leastOf) (n := 1) (a := 32) (as := [.inl (mj_w (x2 + 1))]) (rest := []) (p' := 95) (by decide +kernel) rfl rfl rfl rfl (zn_k zn32 hw) rfl (fun f8 v9 => ?_)
    exact ms_iret (by decide +kernel)
  · refine ms_aload_n (k := 0) (p' := 64) (by decide +kernel) rfl rfl ?_
    refine ms_getr (idx := 30) (ci := 8) (k := 3) (q := 521) (p' := 67) (by decide +kernel) rfl (k_2 hw) (r_2_3 hw) (by decide) ?_
    refine ms_iload_n (k := 3) (p' := 68) (by decide +kernel) rfl rfl ?_
    refine ms_virt_i (idx := 305) (cy := yZ_leastOf) (n := 1) (a := 32) (as := [.inl x3]) (rest := []) (p' := 71) (by decide +kernel) rfl rfl rfl rfl (zn_k zn32 hw) rfl (fun f10 v11 => ?_)
    refine ms_bipush (n := 100) (v := 100) (p' := 73) (by decide +kernel) rfl ?_
    refine ms_icmp_le (off := 6) (t := 79) (p' := 76) (by decide +kernel) rfl (fun hc => ?_) (fun hc => ?_)
    · refine ms_iinc (k := 3) (n := 1) (ls' := [.inr (.inl 2), .inl x1, .inl x2, .inl (mj_w (x3 + 1))]) (p' := 82) (by decide +kernel) rfl rfl rfl ?_
      refine ms_goto (off := (-30)) (p' := 52) (by decide +kernel) ?_
      rfl
    · refine ms_bipush (n := (-2)) (v := (-2)) (p' := 78) (by decide +kernel) rfl ?_
      exact ms_iret (by decide +kernel)
theorem c_X_nodes {sw : Bool} {w : mj_W} (hw : wk sw w) (f : mj_F)   : mj_call yX_nodes w f [.inr (.inl 2)] = some (w, f, some (.inl (f 37 9))) := by
  show mj_run yX_nodes w f 0 [.inr (.inl 2)] [] = _
  refine ms_aload_n (k := 0) (p' := 1) (by decide +kernel) rfl rfl ?_
  refine ms_getr (idx := 44) (ci := 8) (k := 6) (q := 524) (p' := 4) (by decide +kernel) rfl (k_2 hw) (r_2_6 hw) (by decide) ?_
  refine ms_geti (idx := 327) (ci := 0) (k := 9) (q := 399) (p' := 7) (by decide +kernel) rfl (k_37 hw) ?_
  exact ms_iret (by decide +kernel)
theorem c_X_node {sw : Bool} {w : mj_W} (hw : wk sw w) (f : mj_F) (x1 : Int) (x2 : Int)  : mj_call yX_node w f [.inr (.inl 2), .inl x1, .inl x2] = if x2 < 0 then some (w, f, some (.inl (-1))) else if x2 ≤ 3 then mj_bi (mj_call yX_isNode w f [.inr (.inl 2), .inl x1]) (fun f1 v2 => if ¬ v2 = 0 then if x2 = 0 then mj_gd (0 ≤ x1 ∧ x1 < ((60 : Nat) : Int)) (some (w, f1, some (.inl (f1 39 x1.toNat)))) else if x2 = 1 then mj_gd (0 ≤ x1 ∧ x1 < ((60 : Nat) : Int)) (some (w, f1, some (.inl (f1 40 x1.toNat)))) else if x2 = 2 then mj_gd (0 ≤ x1 ∧ x1 < ((60 : Nat) : Int)) (some (w, f1, some (.inl (f1 41 x1.toNat)))) else mj_gd (0 ≤ x1 ∧ x1 < ((60 : Nat) : Int)) (some (w, f1, some (.inl (f1 42 x1.toNat)))) else some (w, f1, some (.inl (-3)))) else some (w, f, some (.inl (-1))) := by
  show mj_run yX_node w f 0 [.inr (.inl 2), .inl x1, .inl x2] [] = _
  refine ms_iload_n (k := 2) (p' := 1) (by decide +kernel) rfl rfl ?_
  refine ms_if_lt (off := 8) (t := 9) (p' := 4) (by decide +kernel) rfl (fun hc => ?_) (fun hc => ?_)
  · refine ms_iconst (n := (-1)) (v := (-1)) (p' := 10) (by decide +kernel) rfl ?_
    exact ms_iret (by decide +kernel)
  · refine ms_iload_n (k := 2) (p' := 5) (by decide +kernel) rfl rfl ?_
    refine ms_iconst (n := 3) (v := 3) (p' := 6) (by decide +kernel) rfl ?_
    refine ms_icmp_le (off := 5) (t := 11) (p' := 9) (by decide +kernel) rfl (fun hc => ?_) (fun hc => ?_)
    · refine ms_aload_n (k := 0) (p' := 12) (by decide +kernel) rfl rfl ?_
      refine ms_iload_n (k := 1) (p' := 13) (by decide +kernel) rfl rfl ?_
      refine ms_virt_i (idx := 241) (cy := yX_isNode) (n := 1) (a := 2) (as := [.inl x1]) (rest := []) (p' := 16) (by decide +kernel) rfl rfl rfl rfl (k_2 hw) rfl (fun f1 v2 => ?_)
      refine ms_if_ne (off := 6) (t := 22) (p' := 19) (by decide +kernel) rfl (fun hc => ?_) (fun hc => ?_)
      · refine ms_iload_n (k := 2) (p' := 23) (by decide +kernel) rfl rfl ?_
        have hd : mj_dec yX_node 23 = some (.tableswitch 55 0 2 #[25, 35, 45]) := by decide +kernel
        by_cases hs0 : x2 = 0
        · rw [if_pos hs0]
          refine ms_tabIn (t := 48) hd (by omega) (by rw [hs0]; decide +kernel) ?_
          refine ms_aload_n (k := 0) (p' := 49) (by decide +kernel) rfl rfl ?_
          refine ms_getr (idx := 44) (ci := 8) (k := 6) (q := 524) (p' := 52) (by decide +kernel) rfl (k_2 hw) (r_2_6 hw) (by decide) ?_
          refine ms_getr (idx := 328) (ci := 0) (k := 1) (q := 385) (p' := 55) (by decide +kernel) rfl (k_37 hw) (r_37_1 hw) (by decide) ?_
          refine ms_iload_n (k := 1) (p' := 56) (by decide +kernel) rfl rfl ?_
          refine ms_iald (p' := 57) (by decide +kernel) rfl (k_39 hw) (fun hj3 => ?_)
          exact ms_iret (by decide +kernel)
        · rw [if_neg hs0]
          by_cases hs1 : x2 = 1
          · rw [if_pos hs1]
            refine ms_tabIn (t := 58) hd (by omega) (by rw [hs1]; decide +kernel) ?_
            refine ms_aload_n (k := 0) (p' := 59) (by decide +kernel) rfl rfl ?_
            refine ms_getr (idx := 44) (ci := 8) (k := 6) (q := 524) (p' := 62) (by decide +kernel) rfl (k_2 hw) (r_2_6 hw) (by decide) ?_
            refine ms_getr (idx := 331) (ci := 0) (k := 2) (q := 387) (p' := 65) (by decide +kernel) rfl (k_37 hw) (r_37_2 hw) (by decide) ?_
            refine ms_iload_n (k := 1) (p' := 66) (by decide +kernel) rfl rfl ?_
            refine ms_iald (p' := 67) (by decide +kernel) rfl (k_40 hw) (fun hj4 => ?_)
            exact ms_iret (by decide +kernel)
          · rw [if_neg hs1]
            by_cases hs2 : x2 = 2
            · rw [if_pos hs2]
              refine ms_tabIn (t := 68) hd (by omega) (by rw [hs2]; decide +kernel) ?_
              refine ms_aload_n (k := 0) (p' := 69) (by decide +kernel) rfl rfl ?_
              refine ms_getr (idx := 44) (ci := 8) (k := 6) (q := 524) (p' := 72) (by decide +kernel) rfl (k_2 hw) (r_2_6 hw) (by decide) ?_
              refine ms_getr (idx := 334) (ci := 0) (k := 3) (q := 389) (p' := 75) (by decide +kernel) rfl (k_37 hw) (r_37_3 hw) (by decide) ?_
              refine ms_iload_n (k := 1) (p' := 76) (by decide +kernel) rfl rfl ?_
              refine ms_iald (p' := 77) (by decide +kernel) rfl (k_41 hw) (fun hj5 => ?_)
              exact ms_iret (by decide +kernel)
            · rw [if_neg hs2]
              refine ms_tabOut (t := 78) hd (by omega) (by decide +kernel) ?_
              refine ms_aload_n (k := 0) (p' := 79) (by decide +kernel) rfl rfl ?_
              refine ms_getr (idx := 44) (ci := 8) (k := 6) (q := 524) (p' := 82) (by decide +kernel) rfl (k_2 hw) (r_2_6 hw) (by decide) ?_
              refine ms_getr (idx := 337) (ci := 0) (k := 4) (q := 391) (p' := 85) (by decide +kernel) rfl (k_37 hw) (r_37_4 hw) (by decide) ?_
              refine ms_iload_n (k := 1) (p' := 86) (by decide +kernel) rfl rfl ?_
              refine ms_iald (p' := 87) (by decide +kernel) rfl (k_42 hw) (fun hj6 => ?_)
              exact ms_iret (by decide +kernel)
      · refine ms_bipush (n := (-3)) (v := (-3)) (p' := 21) (by decide +kernel) rfl ?_
        exact ms_iret (by decide +kernel)
    · refine ms_iconst (n := (-1)) (v := (-1)) (p' := 10) (by decide +kernel) rfl ?_
      exact ms_iret (by decide +kernel)
theorem c_X_nodeBound {sw : Bool} {w : mj_W} (hw : wk sw w) (f : mj_F) (x1 : Int) (x2 : Int) (x3 : Int) (x4 : Int)  : mj_call yX_nodeBound w f [.inr (.inl 2), .inl x1, .inl x2, .inl x3, .inl x4] = mj_bi (mj_call yX_isNode w f [.inr (.inl 2), .inl x1]) (fun f1 v2 => if ¬ v2 = 0 then mj_gd (0 ≤ x1 ∧ x1 < ((60 : Nat) : Int)) (mj_bi (mj_call yX_boundOf w f1 [.inr (.inl 2), .inr (.inl (48 + 2 * x1.toNat)), .inl x2, .inl x3, .inl x4]) (fun f4 v5 => some (w, f4, some (.inl v5)))) else some (w, f1, some (.inl (-2000)))) := by
  show mj_run yX_nodeBound w f 0 [.inr (.inl 2), .inl x1, .inl x2, .inl x3, .inl x4] [] = _
  refine ms_aload_n (k := 0) (p' := 1) (by decide +kernel) rfl rfl ?_
  refine ms_iload_n (k := 1) (p' := 2) (by decide +kernel) rfl rfl ?_
  refine ms_virt_i (idx := 241) (cy := yX_isNode) (n := 1) (a := 2) (as := [.inl x1]) (rest := []) (p' := 5) (by decide +kernel) rfl rfl rfl rfl (k_2 hw) rfl (fun f1 v2 => ?_)
  refine ms_if_ne (off := 7) (t := 12) (p' := 8) (by decide +kernel) rfl (fun hc => ?_) (fun hc => ?_)
  · refine ms_aload_n (k := 0) (p' := 13) (by decide +kernel) rfl rfl ?_
    refine ms_aload_n (k := 0) (p' := 14) (by decide +kernel) rfl rfl ?_
    refine ms_getr (idx := 44) (ci := 8) (k := 6) (q := 524) (p' := 17) (by decide +kernel) rfl (k_2 hw) (r_2_6 hw) (by decide) ?_
    refine ms_getr (idx := 244) (ci := 0) (k := 0) (q := 383) (p' := 20) (by decide +kernel) rfl (k_37 hw) (r_37_0 hw) (by decide) ?_
    refine ms_iload_n (k := 1) (p' := 21) (by decide +kernel) rfl rfl ?_
    refine ms_aald (p' := 22) (by decide +kernel) rfl (k_38 hw) (rz38 hw) (fun hj3 => ?_)
    refine ms_iload_n (k := 2) (p' := 23) (by decide +kernel) rfl rfl ?_
    refine ms_iload_n (k := 3) (p' := 24) (by decide +kernel) rfl rfl ?_
    refine ms_iload (k := 4) (p' := 26) (by decide +kernel) rfl rfl ?_
    refine ms_virt_i (idx := 269) (cy := yX_boundOf) (n := 4) (a := 2) (as := [.inr (.inl (48 + 2 * x1.toNat)), .inl x2, .inl x3, .inl x4]) (rest := []) (p' := 29) (by decide +kernel) rfl rfl rfl rfl (k_2 hw) rfl (fun f4 v5 => ?_)
    exact ms_iret (by decide +kernel)
  · refine ms_sipush (n := (-2000)) (v := (-2000)) (p' := 11) (by decide +kernel) rfl ?_
    exact ms_iret (by decide +kernel)
theorem c_X_way {sw : Bool} {w : mj_W} (hw : wk sw w) (f : mj_F) (x1 : Int) (x2 : Int)  : mj_call yX_way w f [.inr (.inl 2), .inl x1, .inl x2] = mj_bi (mj_call yX_isPlace w f [.inr (.inl 2), .inl x1]) (fun f1 v2 => if v2 = 0 then some (w, f1, some (.inl (-1))) else if (-1) ≤ x2 then mj_bi (mj_call yG_findWay w f1 [.inr (.inl 37), .inl x1]) (fun f3 v4 => if v4 < 0 then some (w, f3, some (.inl (-2))) else if x2 < v4 then if ¬ x2 = (-1) then mj_gd (0 ≤ x2 ∧ x2 < ((60 : Nat) : Int)) (some (w, f3, some (.inl (f3 45 x2.toNat)))) else some (w, f3, some (.inl v4)) else some (w, f3, some (.inl (-2)))) else some (w, f1, some (.inl (-1)))) := by
  show mj_run yX_way w f 0 [.inr (.inl 2), .inl x1, .inl x2, .inr (.inr (.inr 0))] [] = _
  refine ms_aload_n (k := 0) (p' := 1) (by decide +kernel) rfl rfl ?_
  refine ms_iload_n (k := 1) (p' := 2) (by decide +kernel) rfl rfl ?_
  refine ms_virt_i (idx := 107) (cy := yX_isPlace) (n := 1) (a := 2) (as := [.inl x1]) (rest := []) (p' := 5) (by decide +kernel) rfl rfl rfl rfl (k_2 hw) rfl (fun f1 v2 => ?_)
  refine ms_if_eq (off := 8) (t := 13) (p' := 8) (by decide +kernel) rfl (fun hc => ?_) (fun hc => ?_)
  · refine ms_iconst (n := (-1)) (v := (-1)) (p' := 14) (by decide +kernel) rfl ?_
    exact ms_iret (by decide +kernel)
  · refine ms_iload_n (k := 2) (p' := 9) (by decide +kernel) rfl rfl ?_
    refine ms_iconst (n := (-1)) (v := (-1)) (p' := 10) (by decide +kernel) rfl ?_
    refine ms_icmp_ge (off := 5) (t := 15) (p' := 13) (by decide +kernel) rfl (fun hc => ?_) (fun hc => ?_)
    · refine ms_aload_n (k := 0) (p' := 16) (by decide +kernel) rfl rfl ?_
      refine ms_getr (idx := 44) (ci := 8) (k := 6) (q := 524) (p' := 19) (by decide +kernel) rfl (k_2 hw) (r_2_6 hw) (by decide) ?_
      refine ms_iload_n (k := 1) (p' := 20) (by decide +kernel) rfl rfl ?_
      refine ms_virt_i (idx := 340) (cy := yG_findWay) (n := 1) (a := 37) (as := [.inl x1]) (rest := []) (p' := 23) (by decide +kernel) rfl rfl rfl rfl (k_37 hw) rfl (fun f3 v4 => ?_)
      refine ms_istore_n (k := 3) (ls' := [.inr (.inl 2), .inl x1, .inl x2, .inl v4]) (p' := 24) (by decide +kernel) rfl (Nat.le_of_ble_eq_true rfl) rfl ?_
      refine ms_iload_n (k := 3) (p' := 25) (by decide +kernel) rfl rfl ?_
      refine ms_if_lt (off := 8) (t := 33) (p' := 28) (by decide +kernel) rfl (fun hc => ?_) (fun hc => ?_)
      · refine ms_bipush (n := (-2)) (v := (-2)) (p' := 35) (by decide +kernel) rfl ?_
        exact ms_iret (by decide +kernel)
      · refine ms_iload_n (k := 2) (p' := 29) (by decide +kernel) rfl rfl ?_
        refine ms_iload_n (k := 3) (p' := 30) (by decide +kernel) rfl rfl ?_
        refine ms_icmp_lt (off := 6) (t := 36) (p' := 33) (by decide +kernel) rfl (fun hc => ?_) (fun hc => ?_)
        · refine ms_iload_n (k := 2) (p' := 37) (by decide +kernel) rfl rfl ?_
          refine ms_iconst (n := (-1)) (v := (-1)) (p' := 38) (by decide +kernel) rfl ?_
          refine ms_icmp_ne (off := 7) (t := 45) (p' := 41) (by decide +kernel) rfl (fun hc => ?_) (fun hc => ?_)
          · refine ms_aload_n (k := 0) (p' := 46) (by decide +kernel) rfl rfl ?_
            refine ms_getr (idx := 44) (ci := 8) (k := 6) (q := 524) (p' := 49) (by decide +kernel) rfl (k_2 hw) (r_2_6 hw) (by decide) ?_
            refine ms_getr (idx := 343) (ci := 0) (k := 7) (q := 396) (p' := 52) (by decide +kernel) rfl (k_37 hw) (r_37_7 hw) (by decide) ?_
            refine ms_iload_n (k := 2) (p' := 53) (by decide +kernel) rfl rfl ?_
            refine ms_iald (p' := 54) (by decide +kernel) rfl (k_45 hw) (fun hj5 => ?_)
            exact ms_iret (by decide +kernel)
          · refine ms_iload_n (k := 3) (p' := 42) (by decide +kernel) rfl rfl ?_
            refine ms_goto (off := 12) (p' := 54) (by decide +kernel) ?_
            exact ms_iret (by decide +kernel)
        · refine ms_bipush (n := (-2)) (v := (-2)) (p' := 35) (by decide +kernel) rfl ?_
          exact ms_iret (by decide +kernel)
    · refine ms_iconst (n := (-1)) (v := (-1)) (p' := 14) (by decide +kernel) rfl ?_
      exact ms_iret (by decide +kernel)
theorem c_X_open {sw : Bool} {w : mj_W} (hw : wk sw w) (f : mj_F) (x1 : Int)  : mj_call yX_open w f [.inr (.inl 2), .inl x1] = mj_bi (mj_call yX_isNode w f [.inr (.inl 2), .inl x1]) (fun f1 v2 => if v2 = 0 then some (w, f1, some (.inl (-1))) else mj_bi (mj_call yG_openEdges w f1 [.inr (.inl 37), .inr (.inl (pl sw)), .inl x1]) (fun f3 v4 => some (w, f3, some (.inl v4)))) := by
  show mj_run yX_open w f 0 [.inr (.inl 2), .inl x1] [] = _
  refine ms_aload_n (k := 0) (p' := 1) (by decide +kernel) rfl rfl ?_
  refine ms_iload_n (k := 1) (p' := 2) (by decide +kernel) rfl rfl ?_
  refine ms_virt_i (idx := 241) (cy := yX_isNode) (n := 1) (a := 2) (as := [.inl x1]) (rest := []) (p' := 5) (by decide +kernel) rfl rfl rfl rfl (k_2 hw) rfl (fun f1 v2 => ?_)
  refine ms_if_eq (off := 18) (t := 23) (p' := 8) (by decide +kernel) rfl (fun hc => ?_) (fun hc => ?_)
  · refine ms_iconst (n := (-1)) (v := (-1)) (p' := 24) (by decide +kernel) rfl ?_
    exact ms_iret (by decide +kernel)
  · refine ms_aload_n (k := 0) (p' := 9) (by decide +kernel) rfl rfl ?_
    refine ms_getr (idx := 44) (ci := 8) (k := 6) (q := 524) (p' := 12) (by decide +kernel) rfl (k_2 hw) (r_2_6 hw) (by decide) ?_
    refine ms_aload_n (k := 0) (p' := 13) (by decide +kernel) rfl rfl ?_
    refine ms_getr (idx := 19) (ci := 8) (k := 1) (q := 519) (p' := 16) (by decide +kernel) rfl (k_2 hw) (r_2_1 hw) (pn_0 (pl_pn sw)) ?_
    refine ms_iload_n (k := 1) (p' := 17) (by decide +kernel) rfl rfl ?_
    refine ms_virt_i (idx := 346) (cy := yG_openEdges) (n := 2) (a := 37) (as := [.inr (.inl (pl sw)), .inl x1]) (rest := []) (p' := 20) (by decide +kernel) rfl rfl rfl rfl (k_37 hw) rfl (fun f3 v4 => ?_)
    refine ms_goto (off := 4) (p' := 24) (by decide +kernel) ?_
    exact ms_iret (by decide +kernel)
theorem c_X_stuck {sw : Bool} {w : mj_W} (hw : wk sw w) (f : mj_F)   : mj_call yX_stuck w f [.inr (.inl 2)] = mj_run yX_stuck w f 2 [.inr (.inl 2), .inl 0] [] := by
  show mj_run yX_stuck w f 0 [.inr (.inl 2), .inr (.inr (.inr 0))] [] = _
  refine ms_iconst (n := 0) (v := 0) (p' := 1) (by decide +kernel) rfl ?_
  refine ms_istore_n (k := 1) (ls' := [.inr (.inl 2), .inl 0]) (p' := 2) (by decide +kernel) rfl (Nat.le_of_ble_eq_true rfl) rfl ?_
  rfl
theorem l_X_stuck_2 {sw : Bool} {w : mj_W} (hw : wk sw w) (f : mj_F) (x1 : Int)  : mj_run yX_stuck w f 2 [.inr (.inl 2), .inl x1] [] = if (f 37 9) ≤ x1 then some (w, f, some (.inl (-2))) else mj_bi (mj_call yG_openEdges w f [.inr (.inl 37), .inr (.inl (pl sw)), .inl x1]) (fun f1 v2 => if ¬ v2 = 0 then mj_run yX_stuck w f1 2 [.inr (.inl 2), .inl (mj_w (x1 + 1))] [] else some (w, f1, some (.inl x1))) := by
  refine ms_iload_n (k := 1) (p' := 3) (by decide +kernel) rfl rfl ?_
  refine ms_aload_n (k := 0) (p' := 4) (by decide +kernel) rfl rfl ?_
  refine ms_getr (idx := 44) (ci := 8) (k := 6) (q := 524) (p' := 7) (by decide +kernel) rfl (k_2 hw) (r_2_6 hw) (by decide) ?_
  refine ms_geti (idx := 327) (ci := 0) (k := 9) (q := 399) (p' := 10) (by decide +kernel) rfl (k_37 hw) ?_
  refine ms_icmp_ge (off := 26) (t := 36) (p' := 13) (by decide +kernel) rfl (fun hc => ?_) (fun hc => ?_)
  · refine ms_bipush (n := (-2)) (v := (-2)) (p' := 38) (by decide +kernel) rfl ?_
    exact ms_iret (by decide +kernel)
  · refine ms_aload_n (k := 0) (p' := 14) (by decide +kernel) rfl rfl ?_
    refine ms_getr (idx := 44) (ci := 8) (k := 6) (q := 524) (p' := 17) (by decide +kernel) rfl (k_2 hw) (r_2_6 hw) (by decide) ?_
    refine ms_aload_n (k := 0) (p' := 18) (by decide +kernel) rfl rfl ?_
    refine ms_getr (idx := 19) (ci := 8) (k := 1) (q := 519) (p' := 21) (by decide +kernel) rfl (k_2 hw) (r_2_1 hw) (pn_0 (pl_pn sw)) ?_
    refine ms_iload_n (k := 1) (p' := 22) (by decide +kernel) rfl rfl ?_
    refine ms_virt_i (idx := 346) (cy := yG_openEdges) (n := 2) (a := 37) (as := [.inr (.inl (pl sw)), .inl x1]) (rest := []) (p' := 25) (by decide +kernel) rfl rfl rfl rfl (k_37 hw) rfl (fun f1 v2 => ?_)
    refine ms_if_ne (off := 5) (t := 30) (p' := 28) (by decide +kernel) rfl (fun hc => ?_) (fun hc => ?_)
    · refine ms_iinc (k := 1) (n := 1) (ls' := [.inr (.inl 2), .inl (mj_w (x1 + 1))]) (p' := 33) (by decide +kernel) rfl rfl rfl ?_
      refine ms_goto (off := (-31)) (p' := 2) (by decide +kernel) ?_
      rfl
    · refine ms_iload_n (k := 1) (p' := 29) (by decide +kernel) rfl rfl ?_
      exact ms_iret (by decide +kernel)
theorem c_X_reached {sw : Bool} {w : mj_W} (hw : wk sw w) (f : mj_F)   : mj_call yX_reached w f [.inr (.inl 2)] = mj_run yX_reached w f 4 [.inr (.inl 2), .inl 0, .inl 0] [] := by
  show mj_run yX_reached w f 0 [.inr (.inl 2), .inr (.inr (.inr 0)), .inr (.inr (.inr 0))] [] = _
  refine ms_iconst (n := 0) (v := 0) (p' := 1) (by decide +kernel) rfl ?_
  refine ms_istore_n (k := 1) (ls' := [.inr (.inl 2), .inl 0, .inr (.inr (.inr 0))]) (p' := 2) (by decide +kernel) rfl (Nat.le_of_ble_eq_true rfl) rfl ?_
  refine ms_iconst (n := 0) (v := 0) (p' := 3) (by decide +kernel) rfl ?_
  refine ms_istore_n (k := 2) (ls' := [.inr (.inl 2), .inl 0, .inl 0]) (p' := 4) (by decide +kernel) rfl (Nat.le_of_ble_eq_true rfl) rfl ?_
  rfl
theorem l_X_reached_4 {sw : Bool} {w : mj_W} (hw : wk sw w) (f : mj_F) (x1 : Int) (x2 : Int)  : mj_run yX_reached w f 4 [.inr (.inl 2), .inl x1, .inl x2] [] = if (f (pl sw) 2) ≤ x2 then some (w, f, some (.inl x1)) else mj_gd (0 ≤ x2 ∧ x2 < ((8 : Nat) : Int)) (if (f 44 x2.toNat) < 0 then mj_run yX_reached w f 4 [.inr (.inl 2), .inl x1, .inl (mj_w (x2 + 1))] [] else mj_run yX_reached w f 4 [.inr (.inl 2), .inl (mj_or x1 (mj_shl 1 x2)), .inl (mj_w (x2 + 1))] []) := by
  refine ms_iload_n (k := 2) (p' := 5) (by decide +kernel) rfl rfl ?_
  refine ms_aload_n (k := 0) (p' := 6) (by decide +kernel) rfl rfl ?_
  refine ms_getr (idx := 19) (ci := 8) (k := 1) (q := 519) (p' := 9) (by decide +kernel) rfl (k_2 hw) (r_2_1 hw) (pn_0 (pl_pn sw)) ?_
  refine ms_geti (idx := 350) (ci := 3) (k := 2) (q := 210) (p' := 12) (by decide +kernel) rfl (pn_k (pl_pn sw) hw) ?_
  refine ms_icmp_ge (off := 27) (t := 39) (p' := 15) (by decide +kernel) rfl (fun hc => ?_) (fun hc => ?_)
  · refine ms_iload_n (k := 1) (p' := 40) (by decide +kernel) rfl rfl ?_
    exact ms_iret (by decide +kernel)
  · refine ms_aload_n (k := 0) (p' := 16) (by decide +kernel) rfl rfl ?_
    refine ms_getr (idx := 44) (ci := 8) (k := 6) (q := 524) (p' := 19) (by decide +kernel) rfl (k_2 hw) (r_2_6 hw) (by decide) ?_
    refine ms_getr (idx := 130) (ci := 0) (k := 6) (q := 394) (p' := 22) (by decide +kernel) rfl (k_37 hw) (r_37_6 hw) (by decide) ?_
    refine ms_iload_n (k := 2) (p' := 23) (by decide +kernel) rfl rfl ?_
    refine ms_iald (p' := 24) (by decide +kernel) rfl (k_44 hw) (fun hj1 => ?_)
    refine ms_if_lt (off := 9) (t := 33) (p' := 27) (by decide +kernel) rfl (fun hc => ?_) (fun hc => ?_)
    · refine ms_iinc (k := 2) (n := 1) (ls' := [.inr (.inl 2), .inl x1, .inl (mj_w (x2 + 1))]) (p' := 36) (by decide +kernel) rfl rfl rfl ?_
      refine ms_goto (off := (-32)) (p' := 4) (by decide +kernel) ?_
      rfl
    · refine ms_iload_n (k := 1) (p' := 28) (by decide +kernel) rfl rfl ?_
      refine ms_iconst (n := 1) (v := 1) (p' := 29) (by decide +kernel) rfl ?_
      refine ms_iload_n (k := 2) (p' := 30) (by decide +kernel) rfl rfl ?_
      refine ms_ishl (p' := 31) (by decide +kernel) rfl ?_
      refine ms_ior (p' := 32) (by decide +kernel) rfl ?_
      refine ms_istore_n (k := 1) (ls' := [.inr (.inl 2), .inl (mj_or x1 (mj_shl 1 x2)), .inl x2]) (p' := 33) (by decide +kernel) rfl (Nat.le_of_ble_eq_true rfl) rfl ?_
      refine ms_iinc (k := 2) (n := 1) (ls' := [.inr (.inl 2), .inl (mj_or x1 (mj_shl 1 x2)), .inl (mj_w (x2 + 1))]) (p' := 36) (by decide +kernel) rfl rfl rfl ?_
      refine ms_goto (off := (-32)) (p' := 4) (by decide +kernel) ?_
      rfl
theorem c_X_changePath {sw : Bool} {w : mj_W} (hw : wk sw w) (f : mj_F)   : mj_call yX_changePath w f [.inr (.inl 2)] = mj_bu (mj_call yH_keepPath w f [.inr (.inl 178), .inr (.inl 168)]) (fun f1 => some (w, (mj_u f1 170 4 1), none)) := by
  show mj_run yX_changePath w f 0 [.inr (.inl 2)] [] = _
  refine ms_aload_n (k := 0) (p' := 1) (by decide +kernel) rfl rfl ?_
  refine ms_getr (idx := 72) (ci := 8) (k := 10) (q := 528) (p' := 4) (by decide +kernel) rfl (k_2 hw) (r_2_10 hw) (by decide) ?_
  refine ms_aload_n (k := 0) (p' := 5) (by decide +kernel) rfl rfl ?_
  refine ms_getr (idx := 51) (ci := 8) (k := 7) (q := 525) (p' := 8) (by decide +kernel) rfl (k_2 hw) (r_2_7 hw) (by decide) ?_
  refine ms_virt_u (idx := 431) (cy := yH_keepPath) (n := 1) (a := 178) (as := [.inr (.inl 168)]) (rest := []) (p' := 11) (by decide +kernel) rfl rfl rfl rfl (k_178 hw) rfl (fun f1 => ?_)
  refine ms_aload_n (k := 0) (p' := 12) (by decide +kernel) rfl rfl ?_
  refine ms_getr (idx := 58) (ci := 8) (k := 8) (q := 526) (p' := 15) (by decide +kernel) rfl (k_2 hw) (r_2_8 hw) (by decide) ?_
  refine ms_iconst (n := 1) (v := 1) (p' := 16) (by decide +kernel) rfl ?_
  refine Eq.trans (ms_putz (idx := 265) (ci := 5) (k := 4) (q := 451) (p' := 19) (by decide +kernel) rfl (k_170 hw) (fun _ => ?_)) (mj_gd_pos (by decide) _)
  exact ms_vret (by decide +kernel)
theorem c_X_add {sw : Bool} {w : mj_W} (hw : wk sw w) (f : mj_F) (x1 : Int)  : mj_call yX_add w f [.inr (.inl 2), .inl x1] = mj_bi (mj_call yX_isEdge w f [.inr (.inl 2), .inl x1]) (fun f1 v2 => if ¬ v2 = 0 then mj_gd (0 ≤ x1 ∧ x1 < ((16 : Nat) : Int)) (mj_bi (mj_call yP_endIn w f1 [.inr (.inl 168), .inr (.inl (pl sw))]) (fun f4 v5 => if (f1 (pl sw + 8) x1.toNat) = v5 then if (f4 168 1) < 20 then mj_bu (mj_call yX_changePath w f4 [.inr (.inl 2)]) (fun f6 => mj_gd (0 ≤ (f6 168 1) ∧ (f6 168 1) < ((20 : Nat) : Int)) (some (w, (mj_u (mj_u f6 169 (f6 168 1).toNat x1) 168 1 (mj_w ((mj_u f6 169 (f6 168 1).toNat x1 168 1) + 1))), some (.inl (mj_u (mj_u f6 169 (f6 168 1).toNat x1) 168 1 (mj_w ((mj_u f6 169 (f6 168 1).toNat x1 168 1) + 1)) 168 1))))) else some (w, f4, some (.inl (-3))) else some (w, f4, some (.inl (-2))))) else some (w, f1, some (.inl (-1)))) := by
  show mj_run yX_add w f 0 [.inr (.inl 2), .inl x1] [] = _
  refine ms_aload_n (k := 0) (p' := 1) (by decide +kernel) rfl rfl ?_
  refine ms_iload_n (k := 1) (p' := 2) (by decide +kernel) rfl rfl ?_
  refine ms_virt_i (idx := 141) (cy := yX_isEdge) (n := 1) (a := 2) (as := [.inl x1]) (rest := []) (p' := 5) (by decide +kernel) rfl rfl rfl rfl (k_2 hw) rfl (fun f1 v2 => ?_)
  refine ms_if_ne (off := 5) (t := 10) (p' := 8) (by decide +kernel) rfl (fun hc => ?_) (fun hc => ?_)
  · refine ms_aload_n (k := 0) (p' := 11) (by decide +kernel) rfl rfl ?_
    refine ms_getr (idx := 19) (ci := 8) (k := 1) (q := 519) (p' := 14) (by decide +kernel) rfl (k_2 hw) (r_2_1 hw) (pn_0 (pl_pn sw)) ?_
    refine ms_getr (idx := 146) (ci := 3) (k := 13) (q := 251) (p' := 17) (by decide +kernel) rfl (pn_k (pl_pn sw) hw) (pn_r13 (pl_pn sw) hw) (by omega) ?_
    refine ms_iload_n (k := 1) (p' := 18) (by decide +kernel) rfl rfl ?_
    refine ms_iald (p' := 19) (by decide +kernel) rfl (pn_k13 (pl_pn sw) hw) (fun hj3 => ?_)
    refine ms_aload_n (k := 0) (p' := 20) (by decide +kernel) rfl rfl ?_
    refine ms_getr (idx := 51) (ci := 8) (k := 7) (q := 525) (p' := 23) (by decide +kernel) rfl (k_2 hw) (r_2_7 hw) (by decide) ?_
    refine ms_aload_n (k := 0) (p' := 24) (by decide +kernel) rfl rfl ?_
    refine ms_getr (idx := 19) (ci := 8) (k := 1) (q := 519) (p' := 27) (by decide +kernel) rfl (k_2 hw) (r_2_1 hw) (pn_0 (pl_pn sw)) ?_
    refine ms_virt_i (idx := 371) (cy := yP_endIn) (n := 1) (a := 168) (as := [.inr (.inl (pl sw))]) (rest := [.inl (f1 (pl sw + 8) x1.toNat)]) (p' := 30) (by decide +kernel) rfl rfl rfl rfl (k_168 hw) rfl (fun f4 v5 => ?_)
    refine ms_icmp_eq (off := 6) (t := 36) (p' := 33) (by decide +kernel) rfl (fun hc => ?_) (fun hc => ?_)
    · refine ms_aload_n (k := 0) (p' := 37) (by decide +kernel) rfl rfl ?_
      refine ms_getr (idx := 51) (ci := 8) (k := 7) (q := 525) (p' := 40) (by decide +kernel) rfl (k_2 hw) (r_2_7 hw) (by decide) ?_
      refine ms_geti (idx := 375) (ci := 2) (k := 1) (q := 434) (p' := 43) (by decide +kernel) rfl (k_168 hw) ?_
      refine ms_bipush (n := 20) (v := 20) (p' := 45) (by decide +kernel) rfl ?_
      refine ms_icmp_lt (off := 6) (t := 51) (p' := 48) (by decide +kernel) rfl (fun hc => ?_) (fun hc => ?_)
      · refine ms_aload_n (k := 0) (p' := 52) (by decide +kernel) rfl rfl ?_
        refine ms_virt_u (idx := 378) (cy := yX_changePath) (n := 0) (a := 2) (as := []) (rest := []) (p' := 55) (by decide +kernel) rfl rfl rfl rfl (k_2 hw) rfl (fun f6 => ?_)
        refine ms_aload_n (k := 0) (p' := 56) (by decide +kernel) rfl rfl ?_
        refine ms_getr (idx := 51) (ci := 8) (k := 7) (q := 525) (p' := 59) (by decide +kernel) rfl (k_2 hw) (r_2_7 hw) (by decide) ?_
        refine ms_getr (idx := 381) (ci := 2) (k := 0) (q := 430) (p' := 62) (by decide +kernel) rfl (k_168 hw) (r_168_0 hw) (by decide) ?_
        refine ms_aload_n (k := 0) (p' := 63) (by decide +kernel) rfl rfl ?_
        refine ms_getr (idx := 51) (ci := 8) (k := 7) (q := 525) (p' := 66) (by decide +kernel) rfl (k_2 hw) (r_2_7 hw) (by decide) ?_
        refine ms_geti (idx := 375) (ci := 2) (k := 1) (q := 434) (p' := 69) (by decide +kernel) rfl (k_168 hw) ?_
        refine ms_iload_n (k := 1) (p' := 70) (by decide +kernel) rfl rfl ?_
        refine ms_iast (p' := 71) (by decide +kernel) rfl (k_169 hw) (fun hj7 => ?_)
        refine ms_aload_n (k := 0) (p' := 72) (by decide +kernel) rfl rfl ?_
        refine ms_getr (idx := 51) (ci := 8) (k := 7) (q := 525) (p' := 75) (by decide +kernel) rfl (k_2 hw) (r_2_7 hw) (by decide) ?_
        refine ms_dup_a (p' := 76) (by decide +kernel) rfl ?_
        refine ms_geti (idx := 375) (ci := 2) (k := 1) (q := 434) (p' := 79) (by decide +kernel) rfl (k_168 hw) ?_
        refine ms_iconst (n := 1) (v := 1) (p' := 80) (by decide +kernel) rfl ?_
        refine ms_iadd (p' := 81) (by decide +kernel) rfl ?_
        refine ms_puti (idx := 375) (ci := 2) (k := 1) (q := 434) (p' := 84) (by decide +kernel) rfl (k_168 hw) ?_
        refine ms_aload_n (k := 0) (p' := 85) (by decide +kernel) rfl rfl ?_
        refine ms_getr (idx := 51) (ci := 8) (k := 7) (q := 525) (p' := 88) (by decide +kernel) rfl (k_2 hw) (r_2_7 hw) (by decide) ?_
        refine ms_geti (idx := 375) (ci := 2) (k := 1) (q := 434) (p' := 91) (by decide +kernel) rfl (k_168 hw) ?_
        exact ms_iret (by decide +kernel)
      · refine ms_bipush (n := (-3)) (v := (-3)) (p' := 50) (by decide +kernel) rfl ?_
        exact ms_iret (by decide +kernel)
    · refine ms_bipush (n := (-2)) (v := (-2)) (p' := 35) (by decide +kernel) rfl ?_
      exact ms_iret (by decide +kernel)
  · refine ms_iconst (n := (-1)) (v := (-1)) (p' := 9) (by decide +kernel) rfl ?_
    exact ms_iret (by decide +kernel)
theorem c_X_lead {sw : Bool} {w : mj_W} (hw : wk sw w) (f : mj_F) (x1 : Int)  : mj_call yX_lead w f [.inr (.inl 2), .inl x1] = if x1 = (-1) then if ¬ x1 = (-1) then mj_bi (mj_call yG_findWay w f [.inr (.inl 37), .inl x1]) (fun f1 v2 => if 0 ≤ v2 then mj_bu (mj_call yX_changePath w f1 [.inr (.inl 2)]) (fun f3 => mj_run yX_lead w (mj_u f3 168 1 (if 20 < v2 then 20 else v2)) 59 [.inr (.inl 2), .inl x1, .inl v2, .inl 0] []) else some (w, f1, some (.inl (-2)))) else if 0 ≤ (0 : Int) then mj_bu (mj_call yX_changePath w f [.inr (.inl 2)]) (fun f4 => mj_run yX_lead w (mj_u f4 168 1 (if 20 < (0 : Int) then 20 else (0 : Int))) 59 [.inr (.inl 2), .inl x1, .inl 0, .inl 0] []) else some (w, f, some (.inl (-2))) else mj_bi (mj_call yX_isPlace w f [.inr (.inl 2), .inl x1]) (fun f5 v6 => if ¬ v6 = 0 then if ¬ x1 = (-1) then mj_bi (mj_call yG_findWay w f5 [.inr (.inl 37), .inl x1]) (fun f7 v8 => if 0 ≤ v8 then mj_bu (mj_call yX_changePath w f7 [.inr (.inl 2)]) (fun f9 => mj_run yX_lead w (mj_u f9 168 1 (if 20 < v8 then 20 else v8)) 59 [.inr (.inl 2), .inl x1, .inl v8, .inl 0] []) else some (w, f7, some (.inl (-2)))) else if 0 ≤ (0 : Int) then mj_bu (mj_call yX_changePath w f5 [.inr (.inl 2)]) (fun f10 => mj_run yX_lead w (mj_u f10 168 1 (if 20 < (0 : Int) then 20 else (0 : Int))) 59 [.inr (.inl 2), .inl x1, .inl 0, .inl 0] []) else some (w, f5, some (.inl (-2))) else some (w, f5, some (.inl (-1)))) := by
  show mj_run yX_lead w f 0 [.inr (.inl 2), .inl x1, .inr (.inr (.inr 0)), .inr (.inr (.inr 0))] [] = _
  refine ms_iload_n (k := 1) (p' := 1) (by decide +kernel) rfl rfl ?_
  refine ms_iconst (n := (-1)) (v := (-1)) (p' := 2) (by decide +kernel) rfl ?_
  refine ms_icmp_eq (off := 13) (t := 15) (p' := 5) (by decide +kernel) rfl (fun hc => ?_) (fun hc => ?_)
  · refine ms_iload_n (k := 1) (p' := 16) (by decide +kernel) rfl rfl ?_
    refine ms_iconst (n := (-1)) (v := (-1)) (p' := 17) (by decide +kernel) rfl ?_
    refine ms_icmp_ne (off := 7) (t := 24) (p' := 20) (by decide +kernel) rfl (fun hc => ?_) (fun hc => ?_)
    · refine ms_aload_n (k := 0) (p' := 25) (by decide +kernel) rfl rfl ?_
      refine ms_getr (idx := 44) (ci := 8) (k := 6) (q := 524) (p' := 28) (by decide +kernel) rfl (k_2 hw) (r_2_6 hw) (by decide) ?_
      refine ms_iload_n (k := 1) (p' := 29) (by decide +kernel) rfl rfl ?_
      refine ms_virt_i (idx := 340) (cy := yG_findWay) (n := 1) (a := 37) (as := [.inl x1]) (rest := []) (p' := 32) (by decide +kernel) rfl rfl rfl rfl (k_37 hw) rfl (fun f1 v2 => ?_)
      refine ms_istore_n (k := 2) (ls' := [.inr (.inl 2), .inl x1, .inl v2, .inr (.inr (.inr 0))]) (p' := 33) (by decide +kernel) rfl (Nat.le_of_ble_eq_true rfl) rfl ?_
      refine ms_iload_n (k := 2) (p' := 34) (by decide +kernel) rfl rfl ?_
      refine ms_if_ge (off := 6) (t := 40) (p' := 37) (by decide +kernel) rfl (fun hc => ?_) (fun hc => ?_)
      · refine ms_aload_n (k := 0) (p' := 41) (by decide +kernel) rfl rfl ?_
        refine ms_virt_u (idx := 378) (cy := yX_changePath) (n := 0) (a := 2) (as := []) (rest := []) (p' := 44) (by decide +kernel) rfl rfl rfl rfl (k_2 hw) rfl (fun f3 => ?_)
        refine ms_aload_n (k := 0) (p' := 45) (by decide +kernel) rfl rfl ?_
        refine ms_getr (idx := 51) (ci := 8) (k := 7) (q := 525) (p' := 48) (by decide +kernel) rfl (k_2 hw) (r_2_7 hw) (by decide) ?_
        refine ms_iload_n (k := 2) (p' := 49) (by decide +kernel) rfl rfl ?_
        refine ms_bipush (n := 20) (v := 20) (p' := 51) (by decide +kernel) rfl ?_
        refine ms_math2 (idx := 382) (k := 13) (x := 0) (q := 1027) (v := (if 20 < v2 then 20 else v2)) (p' := 54) (by decide +kernel) (Or.inr ⟨rfl, rfl⟩) rfl rfl ?_
        refine ms_puti (idx := 375) (ci := 2) (k := 1) (q := 434) (p' := 57) (by decide +kernel) rfl (k_168 hw) ?_
        refine ms_iconst (n := 0) (v := 0) (p' := 58) (by decide +kernel) rfl ?_
        refine ms_istore_n (k := 3) (ls' := [.inr (.inl 2), .inl x1, .inl v2, .inl 0]) (p' := 59) (by decide +kernel) rfl (Nat.le_of_ble_eq_true rfl) rfl ?_
        rfl
      · refine ms_bipush (n := (-2)) (v := (-2)) (p' := 39) (by decide +kernel) rfl ?_
        exact ms_iret (by decide +kernel)
    · refine ms_iconst (n := 0) (v := 0) (p' := 21) (by decide +kernel) rfl ?_
      refine ms_goto (off := 11) (p' := 32) (by decide +kernel) ?_
      refine ms_istore_n (k := 2) (ls' := [.inr (.inl 2), .inl x1, .inl 0, .inr (.inr (.inr 0))]) (p' := 33) (by decide +kernel) rfl (Nat.le_of_ble_eq_true rfl) rfl ?_
      refine ms_iload_n (k := 2) (p' := 34) (by decide +kernel) rfl rfl ?_
      refine ms_if_ge (off := 6) (t := 40) (p' := 37) (by decide +kernel) rfl (fun hc => ?_) (fun hc => ?_)
      · refine ms_aload_n (k := 0) (p' := 41) (by decide +kernel) rfl rfl ?_
        refine ms_virt_u (idx := 378) (cy := yX_changePath) (n := 0) (a := 2) (as := []) (rest := []) (p' := 44) (by decide +kernel) rfl rfl rfl rfl (k_2 hw) rfl (fun f4 => ?_)
        refine ms_aload_n (k := 0) (p' := 45) (by decide +kernel) rfl rfl ?_
        refine ms_getr (idx := 51) (ci := 8) (k := 7) (q := 525) (p' := 48) (by decide +kernel) rfl (k_2 hw) (r_2_7 hw) (by decide) ?_
        refine ms_iload_n (k := 2) (p' := 49) (by decide +kernel) rfl rfl ?_
        refine ms_bipush (n := 20) (v := 20) (p' := 51) (by decide +kernel) rfl ?_
        refine ms_math2 (idx := 382) (k := 13) (x := 0) (q := 1027) (v := (if 20 < (0 : Int) then 20 else (0 : Int))) (p' := 54) (by decide +kernel) (Or.inr ⟨rfl, rfl⟩) rfl rfl ?_
        refine ms_puti (idx := 375) (ci := 2) (k := 1) (q := 434) (p' := 57) (by decide +kernel) rfl (k_168 hw) ?_
        refine ms_iconst (n := 0) (v := 0) (p' := 58) (by decide +kernel) rfl ?_
        refine ms_istore_n (k := 3) (ls' := [.inr (.inl 2), .inl x1, .inl 0, .inl 0]) (p' := 59) (by decide +kernel) rfl (Nat.le_of_ble_eq_true rfl) rfl ?_
        rfl
      · refine ms_bipush (n := (-2)) (v := (-2)) (p' := 39) (by decide +kernel) rfl ?_
        exact ms_iret (by decide +kernel)
  · refine ms_aload_n (k := 0) (p' := 6) (by decide +kernel) rfl rfl ?_
    refine ms_iload_n (k := 1) (p' := 7) (by decide +kernel) rfl rfl ?_
    refine ms_virt_i (idx := 107) (cy := yX_isPlace) (n := 1) (a := 2) (as := [.inl x1]) (rest := []) (p' := 10) (by decide +kernel) rfl rfl rfl rfl (k_2 hw) rfl (fun f5 v6 => ?_)
    refine ms_if_ne (off := 5) (t := 15) (p' := 13) (by decide +kernel) rfl (fun hc => ?_) (fun hc => ?_)
    · refine ms_iload_n (k := 1) (p' := 16) (by decide +kernel) rfl rfl ?_
      refine ms_iconst (n := (-1)) (v := (-1)) (p' := 17) (by decide +kernel) rfl ?_
      refine ms_icmp_ne (off := 7) (t := 24) (p' := 20) (by decide +kernel) rfl (fun hc => ?_) (fun hc => ?_)
      · refine ms_aload_n (k := 0) (p' := 25) (by decide +kernel) rfl rfl ?_
        refine ms_getr (idx := 44) (ci := 8) (k := 6) (q := 524) (p' := 28) (by decide +kernel) rfl (k_2 hw) (r_2_6 hw) (by decide) ?_
        refine ms_iload_n (k := 1) (p' := 29) (by decide +kernel) rfl rfl ?_
        refine ms_virt_i (idx := 340) (cy := yG_findWay) (n := 1) (a := 37) (as := [.inl x1]) (rest := []) (p' := 32) (by decide +kernel) rfl rfl rfl rfl (k_37 hw) rfl (fun f7 v8 => ?_)
        refine ms_istore_n (k := 2) (ls' := [.inr (.inl 2), .inl x1, .inl v8, .inr (.inr (.inr 0))]) (p' := 33) (by decide +kernel) rfl (Nat.le_of_ble_eq_true rfl) rfl ?_
        refine ms_iload_n (k := 2) (p' := 34) (by decide +kernel) rfl rfl ?_
        refine ms_if_ge (off := 6) (t := 40) (p' := 37) (by decide +kernel) rfl (fun hc => ?_) (fun hc => ?_)
        · refine ms_aload_n (k := 0) (p' := 41) (by decide +kernel) rfl rfl ?_
          refine ms_virt_u (idx := 378) (cy := yX_changePath) (n := 0) (a := 2) (as := []) (rest := []) (p' := 44) (by decide +kernel) rfl rfl rfl rfl (k_2 hw) rfl (fun f9 => ?_)
          refine ms_aload_n (k := 0) (p' := 45) (by decide +kernel) rfl rfl ?_
          refine ms_getr (idx := 51) (ci := 8) (k := 7) (q := 525) (p' := 48) (by decide +kernel) rfl (k_2 hw) (r_2_7 hw) (by decide) ?_
          refine ms_iload_n (k := 2) (p' := 49) (by decide +kernel) rfl rfl ?_
          refine ms_bipush (n := 20) (v := 20) (p' := 51) (by decide +kernel) rfl ?_
          refine ms_math2 (idx := 382) (k := 13) (x := 0) (q := 1027) (v := (if 20 < v8 then 20 else v8)) (p' := 54) (by decide +kernel) (Or.inr ⟨rfl, rfl⟩) rfl rfl ?_
          refine ms_puti (idx := 375) (ci := 2) (k := 1) (q := 434) (p' := 57) (by decide +kernel) rfl (k_168 hw) ?_
          refine ms_iconst (n := 0) (v := 0) (p' := 58) (by decide +kernel) rfl ?_
          refine ms_istore_n (k := 3) (ls' := [.inr (.inl 2), .inl x1, .inl v8, .inl 0]) (p' := 59) (by decide +kernel) rfl (Nat.le_of_ble_eq_true rfl) rfl ?_
          rfl
        · refine ms_bipush (n := (-2)) (v := (-2)) (p' := 39) (by decide +kernel) rfl ?_
          exact ms_iret (by decide +kernel)
      · refine ms_iconst (n := 0) (v := 0) (p' := 21) (by decide +kernel) rfl ?_
        refine ms_goto (off := 11) (p' := 32) (by decide +kernel) ?_
        refine ms_istore_n (k := 2) (ls' := [.inr (.inl 2), .inl x1, .inl 0, .inr (.inr (.inr 0))]) (p' := 33) (by decide +kernel) rfl (Nat.le_of_ble_eq_true rfl) rfl ?_
        refine ms_iload_n (k := 2) (p' := 34) (by decide +kernel) rfl rfl ?_
        refine ms_if_ge (off := 6) (t := 40) (p' := 37) (by decide +kernel) rfl (fun hc => ?_) (fun hc => ?_)
        · refine ms_aload_n (k := 0) (p' := 41) (by decide +kernel) rfl rfl ?_
          refine ms_virt_u (idx := 378) (cy := yX_changePath) (n := 0) (a := 2) (as := []) (rest := []) (p' := 44) (by decide +kernel) rfl rfl rfl rfl (k_2 hw) rfl (fun f10 => ?_)
          refine ms_aload_n (k := 0) (p' := 45) (by decide +kernel) rfl rfl ?_
          refine ms_getr (idx := 51) (ci := 8) (k := 7) (q := 525) (p' := 48) (by decide +kernel) rfl (k_2 hw) (r_2_7 hw) (by decide) ?_
          refine ms_iload_n (k := 2) (p' := 49) (by decide +kernel) rfl rfl ?_
          refine ms_bipush (n := 20) (v := 20) (p' := 51) (by decide +kernel) rfl ?_
          refine ms_math2 (idx := 382) (k := 13) (x := 0) (q := 1027) (v := (if 20 < (0 : Int) then 20 else (0 : Int))) (p' := 54) (by decide +kernel) (Or.inr ⟨rfl, rfl⟩) rfl rfl ?_
          refine ms_puti (idx := 375) (ci := 2) (k := 1) (q := 434) (p' := 57) (by decide +kernel) rfl (k_168 hw) ?_
          refine ms_iconst (n := 0) (v := 0) (p' := 58) (by decide +kernel) rfl ?_
          refine ms_istore_n (k := 3) (ls' := [.inr (.inl 2), .inl x1, .inl 0, .inl 0]) (p' := 59) (by decide +kernel) rfl (Nat.le_of_ble_eq_true rfl) rfl ?_
          rfl
        · refine ms_bipush (n := (-2)) (v := (-2)) (p' := 39) (by decide +kernel) rfl ?_
          exact ms_iret (by decide +kernel)
    · refine ms_iconst (n := (-1)) (v := (-1)) (p' := 14) (by decide +kernel) rfl ?_
      exact ms_iret (by decide +kernel)
theorem l_X_lead_59 {sw : Bool} {w : mj_W} (hw : wk sw w) (f : mj_F) (x1 : Int) (x2 : Int) (x3 : Int)  : mj_run yX_lead w f 59 [.inr (.inl 2), .inl x1, .inl x2, .inl x3] [] = if (f 168 1) ≤ x3 then some (w, f, some (.inl (f 168 1))) else mj_gd (0 ≤ x3 ∧ x3 < ((60 : Nat) : Int)) (mj_gd (0 ≤ x3 ∧ x3 < ((20 : Nat) : Int)) (mj_run yX_lead w (mj_u f 169 x3.toNat (f 45 x3.toNat)) 59 [.inr (.inl 2), .inl x1, .inl x2, .inl (mj_w (x3 + 1))] [])) := by
  refine ms_iload_n (k := 3) (p' := 60) (by decide +kernel) rfl rfl ?_
  refine ms_aload_n (k := 0) (p' := 61) (by decide +kernel) rfl rfl ?_
  refine ms_getr (idx := 51) (ci := 8) (k := 7) (q := 525) (p' := 64) (by decide +kernel) rfl (k_2 hw) (r_2_7 hw) (by decide) ?_
  refine ms_geti (idx := 375) (ci := 2) (k := 1) (q := 434) (p' := 67) (by decide +kernel) rfl (k_168 hw) ?_
  refine ms_icmp_ge (off := 27) (t := 94) (p' := 70) (by decide +kernel) rfl (fun hc => ?_) (fun hc => ?_)
  · refine ms_aload_n (k := 0) (p' := 95) (by decide +kernel) rfl rfl ?_
    refine ms_getr (idx := 51) (ci := 8) (k := 7) (q := 525) (p' := 98) (by decide +kernel) rfl (k_2 hw) (r_2_7 hw) (by decide) ?_
    refine ms_geti (idx := 375) (ci := 2) (k := 1) (q := 434) (p' := 101) (by decide +kernel) rfl (k_168 hw) ?_
    exact ms_iret (by decide +kernel)
  · refine ms_aload_n (k := 0) (p' := 71) (by decide +kernel) rfl rfl ?_
    refine ms_getr (idx := 51) (ci := 8) (k := 7) (q := 525) (p' := 74) (by decide +kernel) rfl (k_2 hw) (r_2_7 hw) (by decide) ?_
    refine ms_getr (idx := 381) (ci := 2) (k := 0) (q := 430) (p' := 77) (by decide +kernel) rfl (k_168 hw) (r_168_0 hw) (by decide) ?_
    refine ms_iload_n (k := 3) (p' := 78) (by decide +kernel) rfl rfl ?_
    refine ms_aload_n (k := 0) (p' := 79) (by decide +kernel) rfl rfl ?_
    refine ms_getr (idx := 44) (ci := 8) (k := 6) (q := 524) (p' := 82) (by decide +kernel) rfl (k_2 hw) (r_2_6 hw) (by decide) ?_
    refine ms_getr (idx := 343) (ci := 0) (k := 7) (q := 396) (p' := 85) (by decide +kernel) rfl (k_37 hw) (r_37_7 hw) (by decide) ?_
    refine ms_iload_n (k := 3) (p' := 86) (by decide +kernel) rfl rfl ?_
    refine ms_iald (p' := 87) (by decide +kernel) rfl (k_45 hw) (fun hj11 => ?_)
    refine ms_iast (p' := 88) (by decide +kernel) rfl (k_169 hw) (fun hj12 => ?_)
    refine ms_iinc (k := 3) (n := 1) (ls' := [.inr (.inl 2), .inl x1, .inl x2, .inl (mj_w (x3 + 1))]) (p' := 91) (by decide +kernel) rfl rfl rfl ?_
    refine ms_goto (off := (-32)) (p' := 59) (by decide +kernel) ?_
    rfl
theorem c_X_trace {sw : Bool} {w : mj_W} (hw : wk sw w) (f : mj_F) (x1 : Int)  : mj_call yX_trace w f [.inr (.inl 2), .inl x1] = if (-1) ≤ x1 then if x1 < (f 168 1) then if ¬ x1 = (-1) then mj_gd (0 ≤ x1 ∧ x1 < ((20 : Nat) : Int)) (some (w, f, some (.inl (f 169 x1.toNat)))) else some (w, f, some (.inl (f 168 1))) else some (w, f, some (.inl (-2))) else some (w, f, some (.inl (-1))) := by
  show mj_run yX_trace w f 0 [.inr (.inl 2), .inl x1] [] = _
  refine ms_iload_n (k := 1) (p' := 1) (by decide +kernel) rfl rfl ?_
  refine ms_iconst (n := (-1)) (v := (-1)) (p' := 2) (by decide +kernel) rfl ?_
  refine ms_icmp_ge (off := 5) (t := 7) (p' := 5) (by decide +kernel) rfl (fun hc => ?_) (fun hc => ?_)
  · refine ms_iload_n (k := 1) (p' := 8) (by decide +kernel) rfl rfl ?_
    refine ms_aload_n (k := 0) (p' := 9) (by decide +kernel) rfl rfl ?_
    refine ms_getr (idx := 51) (ci := 8) (k := 7) (q := 525) (p' := 12) (by decide +kernel) rfl (k_2 hw) (r_2_7 hw) (by decide) ?_
    refine ms_geti (idx := 375) (ci := 2) (k := 1) (q := 434) (p' := 15) (by decide +kernel) rfl (k_168 hw) ?_
    refine ms_icmp_lt (off := 6) (t := 21) (p' := 18) (by decide +kernel) rfl (fun hc => ?_) (fun hc => ?_)
    · refine ms_iload_n (k := 1) (p' := 22) (by decide +kernel) rfl rfl ?_
      refine ms_iconst (n := (-1)) (v := (-1)) (p' := 23) (by decide +kernel) rfl ?_
      refine ms_icmp_ne (off := 13) (t := 36) (p' := 26) (by decide +kernel) rfl (fun hc => ?_) (fun hc => ?_)
      · refine ms_aload_n (k := 0) (p' := 37) (by decide +kernel) rfl rfl ?_
        refine ms_getr (idx := 51) (ci := 8) (k := 7) (q := 525) (p' := 40) (by decide +kernel) rfl (k_2 hw) (r_2_7 hw) (by decide) ?_
        refine ms_getr (idx := 381) (ci := 2) (k := 0) (q := 430) (p' := 43) (by decide +kernel) rfl (k_168 hw) (r_168_0 hw) (by decide) ?_
        refine ms_iload_n (k := 1) (p' := 44) (by decide +kernel) rfl rfl ?_
        refine ms_iald (p' := 45) (by decide +kernel) rfl (k_169 hw) (fun hj1 => ?_)
        exact ms_iret (by decide +kernel)
      · refine ms_aload_n (k := 0) (p' := 27) (by decide +kernel) rfl rfl ?_
        refine ms_getr (idx := 51) (ci := 8) (k := 7) (q := 525) (p' := 30) (by decide +kernel) rfl (k_2 hw) (r_2_7 hw) (by decide) ?_
        refine ms_geti (idx := 375) (ci := 2) (k := 1) (q := 434) (p' := 33) (by decide +kernel) rfl (k_168 hw) ?_
        refine ms_goto (off := 12) (p' := 45) (by decide +kernel) ?_
        exact ms_iret (by decide +kernel)
    · refine ms_bipush (n := (-2)) (v := (-2)) (p' := 20) (by decide +kernel) rfl ?_
      exact ms_iret (by decide +kernel)
  · refine ms_iconst (n := (-1)) (v := (-1)) (p' := 6) (by decide +kernel) rfl ?_
    exact ms_iret (by decide +kernel)
theorem c_X_timesOfPath {sw : Bool} {w : mj_W} (hw : wk sw w) (f : mj_F)   : mj_call yX_timesOfPath w f [.inr (.inl 2)] = if (f 170 4) = 0 then some (w, f, some (.inr (.inl 170))) else mj_bu (mj_call yT_build w f [.inr (.inl 170), .inr (.inl (pl sw)), .inr (.inl 168)]) (fun f1 => some (w, f1, some (.inr (.inl 170)))) := by
  show mj_run yX_timesOfPath w f 0 [.inr (.inl 2)] [] = _
  refine ms_aload_n (k := 0) (p' := 1) (by decide +kernel) rfl rfl ?_
  refine ms_getr (idx := 58) (ci := 8) (k := 8) (q := 526) (p' := 4) (by decide +kernel) rfl (k_2 hw) (r_2_8 hw) (by decide) ?_
  refine ms_geti (idx := 265) (ci := 5) (k := 4) (q := 451) (p' := 7) (by decide +kernel) rfl (k_170 hw) ?_
  refine ms_if_eq (off := 18) (t := 25) (p' := 10) (by decide +kernel) rfl (fun hc => ?_) (fun hc => ?_)
  · refine ms_aload_n (k := 0) (p' := 26) (by decide +kernel) rfl rfl ?_
    refine ms_getr (idx := 58) (ci := 8) (k := 8) (q := 526) (p' := 29) (by decide +kernel) rfl (k_2 hw) (r_2_8 hw) (by decide) ?_
    exact ms_aret (by decide +kernel) (by decide)
  · refine ms_aload_n (k := 0) (p' := 11) (by decide +kernel) rfl rfl ?_
    refine ms_getr (idx := 58) (ci := 8) (k := 8) (q := 526) (p' := 14) (by decide +kernel) rfl (k_2 hw) (r_2_8 hw) (by decide) ?_
    refine ms_aload_n (k := 0) (p' := 15) (by decide +kernel) rfl rfl ?_
    refine ms_getr (idx := 19) (ci := 8) (k := 1) (q := 519) (p' := 18) (by decide +kernel) rfl (k_2 hw) (r_2_1 hw) (pn_0 (pl_pn sw)) ?_
    refine ms_aload_n (k := 0) (p' := 19) (by decide +kernel) rfl rfl ?_
    refine ms_getr (idx := 51) (ci := 8) (k := 7) (q := 525) (p' := 22) (by decide +kernel) rfl (k_2 hw) (r_2_7 hw) (by decide) ?_
    refine ms_virt_u (idx := 434) (cy := yT_build) (n := 2) (a := 170) (as := [.inr (.inl (pl sw)), .inr (.inl 168)]) (rest := []) (p' := 25) (by decide +kernel) rfl rfl rfl rfl (k_170 hw) rfl (fun f1 => ?_)
    refine ms_aload_n (k := 0) (p' := 26) (by decide +kernel) rfl rfl ?_
    refine ms_getr (idx := 58) (ci := 8) (k := 8) (q := 526) (p' := 29) (by decide +kernel) rfl (k_2 hw) (r_2_8 hw) (by decide) ?_
    exact ms_aret (by decide +kernel) (by decide)
theorem c_X_breaks {sw : Bool} {w : mj_W} (hw : wk sw w) (f : mj_F)   : mj_call yX_breaks w f [.inr (.inl 2)] = if ¬ (f (pl sw) 2) = 0 then mj_bi (mj_call yW_breakIn w f [.inr (.inl 175), .inr (.inl (pl sw)), .inr (.inl 169), .inl (f 168 1)]) (fun f1 v2 => some (w, f1, some (.inl v2))) else some (w, f, some (.inl (-1))) := by
  show mj_run yX_breaks w f 0 [.inr (.inl 2)] [] = _
  refine ms_aload_n (k := 0) (p' := 1) (by decide +kernel) rfl rfl ?_
  refine ms_getr (idx := 19) (ci := 8) (k := 1) (q := 519) (p' := 4) (by decide +kernel) rfl (k_2 hw) (r_2_1 hw) (pn_0 (pl_pn sw)) ?_
  refine ms_geti (idx := 350) (ci := 3) (k := 2) (q := 210) (p' := 7) (by decide +kernel) rfl (pn_k (pl_pn sw) hw) ?_
  refine ms_if_ne (off := 5) (t := 12) (p' := 10) (by decide +kernel) rfl (fun hc => ?_) (fun hc => ?_)
  · refine ms_aload_n (k := 0) (p' := 13) (by decide +kernel) rfl rfl ?_
    refine ms_getr (idx := 65) (ci := 8) (k := 9) (q := 527) (p' := 16) (by decide +kernel) rfl (k_2 hw) (r_2_9 hw) (by decide) ?_
    refine ms_aload_n (k := 0) (p' := 17) (by decide +kernel) rfl rfl ?_
    refine ms_getr (idx := 19) (ci := 8) (k := 1) (q := 519) (p' := 20) (by decide +kernel) rfl (k_2 hw) (r_2_1 hw) (pn_0 (pl_pn sw)) ?_
    refine ms_aload_n (k := 0) (p' := 21) (by decide +kernel) rfl rfl ?_
    refine ms_getr (idx := 51) (ci := 8) (k := 7) (q := 525) (p' := 24) (by decide +kernel) rfl (k_2 hw) (r_2_7 hw) (by decide) ?_
    refine ms_getr (idx := 381) (ci := 2) (k := 0) (q := 430) (p' := 27) (by decide +kernel) rfl (k_168 hw) (r_168_0 hw) (by decide) ?_
    refine ms_aload_n (k := 0) (p' := 28) (by decide +kernel) rfl rfl ?_
    refine ms_getr (idx := 51) (ci := 8) (k := 7) (q := 525) (p' := 31) (by decide +kernel) rfl (k_2 hw) (r_2_7 hw) (by decide) ?_
    refine ms_geti (idx := 375) (ci := 2) (k := 1) (q := 434) (p' := 34) (by decide +kernel) rfl (k_168 hw) ?_
    refine ms_virt_i (idx := 355) (cy := yW_breakIn) (n := 3) (a := 175) (as := [.inr (.inl (pl sw)), .inr (.inl 169), .inl (f 168 1)]) (rest := []) (p' := 37) (by decide +kernel) rfl rfl rfl rfl (k_175 hw) rfl (fun f1 v2 => ?_)
    exact ms_iret (by decide +kernel)
  · refine ms_iconst (n := (-1)) (v := (-1)) (p' := 11) (by decide +kernel) rfl ?_
    exact ms_iret (by decide +kernel)
theorem c_X_width {sw : Bool} {w : mj_W} (hw : wk sw w) (f : mj_F) (x1 : Int) (x2 : Int) (x3 : Int) (x4 : Int)  : mj_call yX_width w f [.inr (.inl 2), .inl x1, .inl x2, .inl x3, .inl x4] = mj_bi (mj_call yX_isTable w f [.inl x1]) (fun f1 v2 => if v2 = 0 then some (w, f1, some (.inl (-2000))) else mj_bi (mj_call yX_isPair w f1 [.inr (.inl 2), .inl x2, .inl x3]) (fun f3 v4 => if v4 = 0 then some (w, f3, some (.inl (-2000))) else if x4 < 0 then some (w, f3, some (.inl (-2000))) else if x4 ≤ 1 then mj_gd (0 ≤ x1 ∧ x1 < ((4 : Nat) : Int)) (if (f3 (215 + 2 * x1.toNat) 2) = 0 then mj_bi (mj_call yZ_cell w f3 [.inr (.inl (215 + 2 * x1.toNat)), .inl (mj_w (x2 + 1)), .inl (mj_w (x3 + 1))]) (fun f6 v7 => mj_bi (mj_call yZ_cell w f6 [.inr (.inl (215 + 2 * x1.toNat)), .inl (mj_w (x3 + 1)), .inl (mj_w (x2 + 1))]) (fun f8 v9 => mj_bi (mj_call yX_sumOf w f8 [.inl v7, .inl v9]) (fun f10 v11 => mj_bi (mj_call yX_tellBound w f10 [.inl v11, .inl x4]) (fun f12 v13 => some (w, f12, some (.inl v13)))))) else some (w, f3, some (.inl (-1000)))) else some (w, f3, some (.inl (-2000))))) := by
  show mj_run yX_width w f 0 [.inr (.inl 2), .inl x1, .inl x2, .inl x3, .inl x4, .inr (.inr (.inr 0))] [] = _
  refine ms_iload_n (k := 1) (p' := 1) (by decide +kernel) rfl rfl ?_
  refine ms_stat_i (idx := 182) (cy := yX_isTable) (n := 1) (as := [.inl x1]) (rest := []) (p' := 4) (by decide +kernel) rfl rfl rfl rfl rfl (fun f1 v2 => ?_)
  refine ms_if_eq (off := 23) (t := 27) (p' := 7) (by decide +kernel) rfl (fun hc => ?_) (fun hc => ?_)
  · refine ms_sipush (n := (-2000)) (v := (-2000)) (p' := 30) (by decide +kernel) rfl ?_
    exact ms_iret (by decide +kernel)
  · refine ms_aload_n (k := 0) (p' := 8) (by decide +kernel) rfl rfl ?_
    refine ms_iload_n (k := 2) (p' := 9) (by decide +kernel) rfl rfl ?_
    refine ms_iload_n (k := 3) (p' := 10) (by decide +kernel) rfl rfl ?_
    refine ms_virt_i (idx := 200) (cy := yX_isPair) (n := 2) (a := 2) (as := [.inl x2, .inl x3]) (rest := []) (p' := 13) (by decide +kernel) rfl rfl rfl rfl (k_2 hw) rfl (fun f3 v4 => ?_)
    refine ms_if_eq (off := 14) (t := 27) (p' := 16) (by decide +kernel) rfl (fun hc => ?_) (fun hc => ?_)
    · refine ms_sipush (n := (-2000)) (v := (-2000)) (p' := 30) (by decide +kernel) rfl ?_
      exact ms_iret (by decide +kernel)
    · refine ms_iload (k := 4) (p' := 18) (by decide +kernel) rfl rfl ?_
      refine ms_if_lt (off := 9) (t := 27) (p' := 21) (by decide +kernel) rfl (fun hc => ?_) (fun hc => ?_)
      · refine ms_sipush (n := (-2000)) (v := (-2000)) (p' := 30) (by decide +kernel) rfl ?_
        exact ms_iret (by decide +kernel)
      · refine ms_iload (k := 4) (p' := 23) (by decide +kernel) rfl rfl ?_
        refine ms_iconst (n := 1) (v := 1) (p' := 24) (by decide +kernel) rfl ?_
        refine ms_icmp_le (off := 7) (t := 31) (p' := 27) (by decide +kernel) rfl (fun hc => ?_) (fun hc => ?_)
        · refine ms_aload_n (k := 0) (p' := 32) (by decide +kernel) rfl rfl ?_
          refine ms_getr (idx := 25) (ci := 8) (k := 2) (q := 520) (p' := 35) (by decide +kernel) rfl (k_2 hw) (r_2_2 hw) (by decide) ?_
          refine ms_iload_n (k := 1) (p' := 36) (by decide +kernel) rfl rfl ?_
          refine ms_aald (p' := 37) (by decide +kernel) rfl (k_31 hw) (rz31 hw) (fun hj5 => ?_)
          refine ms_astore (k := 5) (ls' := [.inr (.inl 2), .inl x1, .inl x2, .inl x3, .inl x4, .inr (.inl (215 + 2 * x1.toNat))]) (p' := 39) (by decide +kernel) rfl (Nat.le_of_ble_eq_true rfl) rfl ?_
          refine ms_aload (k := 5) (p' := 41) (by decide +kernel) rfl rfl ?_
          refine ms_geti (idx := 273) (ci := 7) (k := 2) (q := 365) (p' := 44) (by decide +kernel) rfl (zn_k (zz31 hj5) hw) ?_
          refine ms_if_eq (off := 7) (t := 51) (p' := 47) (by decide +kernel) rfl (fun hc => ?_) (fun hc => ?_)
          · refine ms_aload (k := 5) (p' := 53) (by decide +kernel) rfl rfl ?_
            refine ms_iload_n (k := 2) (p' := 54) (by decide +kernel) rfl rfl ?_
            refine ms_iconst (n := 1) (v := 1) (p' := 55) (by decide +kernel) rfl ?_
            refine ms_iadd (p' := 56) (by decide +kernel) rfl ?_
            refine ms_iload_n (k := 3) (p' := 57) (by decide +kernel) rfl rfl ?_
            refine ms_iconst (n := 1) (v := 1) (p' := 58) (by decide +kernel) rfl ?_
            refine ms_iadd (p' := 59) (by decide +kernel) rfl ?_
            refine ms_virt_i (idx := 308) (cy := yZ_cell) (n := 2) (a := (215 + 2 * x1.toNat)) (as := [.inl (mj_w (x2 + 1)), .inl (mj_w (x3 + 1))]) (rest := []) (p' := 62) (by decide +kernel) rfl rfl rfl rfl (zn_k (zz31 hj5) hw) rfl (fun f6 v7 => ?_)
            refine ms_aload (k := 5) (p' := 64) (by decide +kernel) rfl rfl ?_
            refine ms_iload_n (k := 3) (p' := 65) (by decide +kernel) rfl rfl ?_
            refine ms_iconst (n := 1) (v := 1) (p' := 66) (by decide +kernel) rfl ?_
            refine ms_iadd (p' := 67) (by decide +kernel) rfl ?_
            refine ms_iload_n (k := 2) (p' := 68) (by decide +kernel) rfl rfl ?_
            refine ms_iconst (n := 1) (v := 1) (p' := 69) (by decide +kernel) rfl ?_
            refine ms_iadd (p' := 70) (by decide +kernel) rfl ?_
            refine ms_virt_i (idx := 308) (cy := yZ_cell) (n := 2) (a := (215 + 2 * x1.toNat)) (as := [.inl (mj_w (x3 + 1)), .inl (mj_w (x2 + 1))]) (rest := [.inl v7]) (p' := 73) (by decide +kernel) rfl rfl rfl rfl (zn_k (zz31 hj5) hw) rfl (fun f8 v9 => ?_)
            refine ms_stat_i (idx := 312) (cy := yX_sumOf) (n := 2) (as := [.inl v7, .inl v9]) (rest := []) (p' := 76) (by decide +kernel) rfl rfl rfl rfl rfl (fun f10 v11 => ?_)
            refine ms_iload (k := 4) (p' := 78) (by decide +kernel) rfl rfl ?_
            refine ms_stat_i (idx := 315) (cy := yX_tellBound) (n := 2) (as := [.inl v11, .inl x4]) (rest := []) (p' := 81) (by decide +kernel) rfl rfl rfl rfl rfl (fun f12 v13 => ?_)
            exact ms_iret (by decide +kernel)
          · refine ms_sipush (n := (-1000)) (v := (-1000)) (p' := 50) (by decide +kernel) rfl ?_
            exact ms_iret (by decide +kernel)
        · refine ms_sipush (n := (-2000)) (v := (-2000)) (p' := 30) (by decide +kernel) rfl ?_
          exact ms_iret (by decide +kernel)
theorem c_X_touch {sw : Bool} {w : mj_W} (hw : wk sw w) (f : mj_F) (x1 : Int) (x2 : Int)  : mj_call yX_touch w f [.inr (.inl 2), .inl x1, .inl x2] = mj_bi (mj_call yX_isTable w f [.inl x1]) (fun f1 v2 => if v2 = 0 then some (w, f1, some (.inl (-1))) else mj_bi (mj_call yX_isTable w f1 [.inl x2]) (fun f3 v4 => if ¬ v4 = 0 then mj_gd (0 ≤ x1 ∧ x1 < ((4 : Nat) : Int)) (mj_bu (mj_call yZ_become w f3 [.inr (.inl 32), .inr (.inl (215 + 2 * x1.toNat))]) (fun f6 => mj_gd (0 ≤ x2 ∧ x2 < ((4 : Nat) : Int)) (mj_bu (mj_call yZ_narrowTo w f6 [.inr (.inl 32), .inr (.inl (215 + 2 * x2.toNat))]) (fun f8 => if (f8 32 2) = 0 then some (w, f8, some (.inl 1)) else some (w, f8, some (.inl 0)))))) else some (w, f3, some (.inl (-1))))) := by
  show mj_run yX_touch w f 0 [.inr (.inl 2), .inl x1, .inl x2] [] = _
  refine ms_iload_n (k := 1) (p' := 1) (by decide +kernel) rfl rfl ?_
  refine ms_stat_i (idx := 182) (cy := yX_isTable) (n := 1) (as := [.inl x1]) (rest := []) (p' := 4) (by decide +kernel) rfl rfl rfl rfl rfl (fun f1 v2 => ?_)
  refine ms_if_eq (off := 10) (t := 14) (p' := 7) (by decide +kernel) rfl (fun hc => ?_) (fun hc => ?_)
  · refine ms_iconst (n := (-1)) (v := (-1)) (p' := 15) (by decide +kernel) rfl ?_
    exact ms_iret (by decide +kernel)
  · refine ms_iload_n (k := 2) (p' := 8) (by decide +kernel) rfl rfl ?_
    refine ms_stat_i (idx := 182) (cy := yX_isTable) (n := 1) (as := [.inl x2]) (rest := []) (p' := 11) (by decide +kernel) rfl rfl rfl rfl rfl (fun f3 v4 => ?_)
    refine ms_if_ne (off := 5) (t := 16) (p' := 14) (by decide +kernel) rfl (fun hc => ?_) (fun hc => ?_)
    · refine ms_aload_n (k := 0) (p' := 17) (by decide +kernel) rfl rfl ?_
      refine ms_getr (idx := 30) (ci := 8) (k := 3) (q := 521) (p' := 20) (by decide +kernel) rfl (k_2 hw) (r_2_3 hw) (by decide) ?_
      refine ms_aload_n (k := 0) (p' := 21) (by decide +kernel) rfl rfl ?_
      refine ms_getr (idx := 25) (ci := 8) (k := 2) (q := 520) (p' := 24) (by decide +kernel) rfl (k_2 hw) (r_2_2 hw) (by decide) ?_
      refine ms_iload_n (k := 1) (p' := 25) (by decide +kernel) rfl rfl ?_
      refine ms_aald (p' := 26) (by decide +kernel) rfl (k_31 hw) (rz31 hw) (fun hj5 => ?_)
      refine ms_virt_u (idx := 204) (cy := yZ_become) (n := 1) (a := 32) (as := [.inr (.inl (215 + 2 * x1.toNat))]) (rest := []) (p' := 29) (by decide +kernel) rfl rfl rfl rfl (zn_k zn32 hw) rfl (fun f6 => ?_)
      refine ms_aload_n (k := 0) (p' := 30) (by decide +kernel) rfl rfl ?_
      refine ms_getr (idx := 30) (ci := 8) (k := 3) (q := 521) (p' := 33) (by decide +kernel) rfl (k_2 hw) (r_2_3 hw) (by decide) ?_
      refine ms_aload_n (k := 0) (p' := 34) (by decide +kernel) rfl rfl ?_
      refine ms_getr (idx := 25) (ci := 8) (k := 2) (q := 520) (p' := 37) (by decide +kernel) rfl (k_2 hw) (r_2_2 hw) (by decide) ?_
      refine ms_iload_n (k := 2) (p' := 38) (by decide +kernel) rfl rfl ?_
      refine ms_aald (p' := 39) (by decide +kernel) rfl (k_31 hw) (rz31 hw) (fun hj7 => ?_)
      refine ms_virt_u (idx := 228) (cy := yZ_narrowTo) (n := 1) (a := 32) (as := [.inr (.inl (215 + 2 * x2.toNat))]) (rest := []) (p' := 42) (by decide +kernel) rfl rfl rfl rfl (zn_k zn32 hw) rfl (fun f8 => ?_)
      refine ms_aload_n (k := 0) (p' := 43) (by decide +kernel) rfl rfl ?_
      refine ms_getr (idx := 30) (ci := 8) (k := 3) (q := 521) (p' := 46) (by decide +kernel) rfl (k_2 hw) (r_2_3 hw) (by decide) ?_
      refine ms_geti (idx := 273) (ci := 7) (k := 2) (q := 365) (p' := 49) (by decide +kernel) rfl (zn_k zn32 hw) ?_
      refine ms_if_eq (off := 7) (t := 56) (p' := 52) (by decide +kernel) rfl (fun hc => ?_) (fun hc => ?_)
      · refine ms_iconst (n := 1) (v := 1) (p' := 57) (by decide +kernel) rfl ?_
        exact ms_iret (by decide +kernel)
      · refine ms_iconst (n := 0) (v := 0) (p' := 53) (by decide +kernel) rfl ?_
        refine ms_goto (off := 4) (p' := 57) (by decide +kernel) ?_
        exact ms_iret (by decide +kernel)
    · refine ms_iconst (n := (-1)) (v := (-1)) (p' := 15) (by decide +kernel) rfl ?_
      exact ms_iret (by decide +kernel)
theorem c_X_back {sw : Bool} {w : mj_W} (hw : wk sw w) (f : mj_F) (x1 : Int) (x2 : Int)  : mj_call yX_back w f [.inr (.inl 2), .inl x1, .inl x2] = mj_bi (mj_call yX_isTable w f [.inl x1]) (fun f1 v2 => if v2 = 0 then some (w, f1, some (.inl (-1))) else mj_bi (mj_call yX_isEdge w f1 [.inr (.inl 2), .inl x2]) (fun f3 v4 => if ¬ v4 = 0 then mj_gd (0 ≤ x1 ∧ x1 < ((4 : Nat) : Int)) (mj_bu (mj_call yZ_become w f3 [.inr (.inl 32), .inr (.inl (215 + 2 * x1.toNat))]) (fun f6 => mj_bu (mj_call yZ_stepBackBy w f6 [.inr (.inl 32), .inr (.inl (pl sw)), .inl x2]) (fun f7 => mj_bi (mj_call yX_settle w f7 [.inr (.inl 2), .inl x1]) (fun f8 v9 => some (w, f8, some (.inl v9)))))) else some (w, f3, some (.inl (-1))))) := by
  show mj_run yX_back w f 0 [.inr (.inl 2), .inl x1, .inl x2] [] = _
  refine ms_iload_n (k := 1) (p' := 1) (by decide +kernel) rfl rfl ?_
  refine ms_stat_i (idx := 182) (cy := yX_isTable) (n := 1) (as := [.inl x1]) (rest := []) (p' := 4) (by decide +kernel) rfl rfl rfl rfl rfl (fun f1 v2 => ?_)
  refine ms_if_eq (off := 11) (t := 15) (p' := 7) (by decide +kernel) rfl (fun hc => ?_) (fun hc => ?_)
  · refine ms_iconst (n := (-1)) (v := (-1)) (p' := 16) (by decide +kernel) rfl ?_
    exact ms_iret (by decide +kernel)
  · refine ms_aload_n (k := 0) (p' := 8) (by decide +kernel) rfl rfl ?_
    refine ms_iload_n (k := 2) (p' := 9) (by decide +kernel) rfl rfl ?_
    refine ms_virt_i (idx := 141) (cy := yX_isEdge) (n := 1) (a := 2) (as := [.inl x2]) (rest := []) (p' := 12) (by decide +kernel) rfl rfl rfl rfl (k_2 hw) rfl (fun f3 v4 => ?_)
    refine ms_if_ne (off := 5) (t := 17) (p' := 15) (by decide +kernel) rfl (fun hc => ?_) (fun hc => ?_)
    · refine ms_aload_n (k := 0) (p' := 18) (by decide +kernel) rfl rfl ?_
      refine ms_getr (idx := 30) (ci := 8) (k := 3) (q := 521) (p' := 21) (by decide +kernel) rfl (k_2 hw) (r_2_3 hw) (by decide) ?_
      refine ms_aload_n (k := 0) (p' := 22) (by decide +kernel) rfl rfl ?_
      refine ms_getr (idx := 25) (ci := 8) (k := 2) (q := 520) (p' := 25) (by decide +kernel) rfl (k_2 hw) (r_2_2 hw) (by decide) ?_
      refine ms_iload_n (k := 1) (p' := 26) (by decide +kernel) rfl rfl ?_
      refine ms_aald (p' := 27) (by decide +kernel) rfl (k_31 hw) (rz31 hw) (fun hj5 => ?_)
      refine ms_virt_u (idx := 204) (cy := yZ_become) (n := 1) (a := 32) (as := [.inr (.inl (215 + 2 * x1.toNat))]) (rest := []) (p' := 30) (by decide +kernel) rfl rfl rfl rfl (zn_k zn32 hw) rfl (fun f6 => ?_)
      refine ms_aload_n (k := 0) (p' := 31) (by decide +kernel) rfl rfl ?_
      refine ms_getr (idx := 30) (ci := 8) (k := 3) (q := 521) (p' := 34) (by decide +kernel) rfl (k_2 hw) (r_2_3 hw) (by decide) ?_
      refine ms_aload_n (k := 0) (p' := 35) (by decide +kernel) rfl rfl ?_
      refine ms_getr (idx := 19) (ci := 8) (k := 1) (q := 519) (p' := 38) (by decide +kernel) rfl (k_2 hw) (r_2_1 hw) (pn_0 (pl_pn sw)) ?_
      refine ms_iload_n (k := 2) (p' := 39) (by decide +kernel) rfl rfl ?_
      refine ms_virt_u (idx := 247) (cy := yZ_stepBackBy) (n := 2) (a := 32) (as := [.inr (.inl (pl sw)), .inl x2]) (rest := []) (p' := 42) (by decide +kernel) rfl rfl rfl rfl (zn_k zn32 hw) rfl (fun f7 => ?_)
      refine ms_aload_n (k := 0) (p' := 43) (by decide +kernel) rfl rfl ?_
      refine ms_iload_n (k := 1) (p' := 44) (by decide +kernel) rfl rfl ?_
      refine ms_virt_i (idx := 197) (cy := yX_settle) (n := 1) (a := 2) (as := [.inl x1]) (rest := []) (p' := 47) (by decide +kernel) rfl rfl rfl rfl (k_2 hw) rfl (fun f8 v9 => ?_)
      exact ms_iret (by decide +kernel)
    · refine ms_iconst (n := (-1)) (v := (-1)) (p' := 16) (by decide +kernel) rfl ?_
      exact ms_iret (by decide +kernel)
theorem c_X_longest {sw : Bool} {w : mj_W} (hw : wk sw w) (f : mj_F) (x1 : Int) (x2 : Int) (x3 : Int)  : mj_call yX_longest w f [.inr (.inl 2), .inl x1, .inl x2, .inl x3] = mj_bi (mj_call yX_isTable w f [.inl x1]) (fun f1 v2 => if v2 = 0 then some (w, f1, some (.inl (-2000))) else mj_bi (mj_call yX_isPlace w f1 [.inr (.inl 2), .inl x2]) (fun f3 v4 => if v4 = 0 then some (w, f3, some (.inl (-2000))) else if x3 < 0 then some (w, f3, some (.inl (-2000))) else if x3 ≤ 1 then mj_gd (0 ≤ x1 ∧ x1 < ((4 : Nat) : Int)) (mj_bu (mj_call yZ_becomeTimed w f3 [.inr (.inl 34), .inr (.inl (215 + 2 * x1.toNat))]) (fun f6 => mj_bu (mj_call yZ_waitIn w f6 [.inr (.inl 34), .inr (.inl (pl sw)), .inl x2]) (fun f7 => if (f7 34 2) = 0 then mj_bi (mj_call yZ_cell w f7 [.inr (.inl 34), .inl (mj_w ((f7 34 1) - 1)), .inl 0]) (fun f8 v9 => mj_bi (mj_call yX_tellBound w f8 [.inl v9, .inl x3]) (fun f10 v11 => some (w, f10, some (.inl v11)))) else some (w, f7, some (.inl (-1000)))))) else some (w, f3, some (.inl (-2000))))) := by
  show mj_run yX_longest w f 0 [.inr (.inl 2), .inl x1, .inl x2, .inl x3] [] = _
  refine ms_iload_n (k := 1) (p' := 1) (by decide +kernel) rfl rfl ?_
  refine ms_stat_i (idx := 182) (cy := yX_isTable) (n := 1) (as := [.inl x1]) (rest := []) (p' := 4) (by decide +kernel) rfl rfl rfl rfl rfl (fun f1 v2 => ?_)
  refine ms_if_eq (off := 20) (t := 24) (p' := 7) (by decide +kernel) rfl (fun hc => ?_) (fun hc => ?_)
  · refine ms_sipush (n := (-2000)) (v := (-2000)) (p' := 27) (by decide +kernel) rfl ?_
    exact ms_iret (by decide +kernel)
  · refine ms_aload_n (k := 0) (p' := 8) (by decide +kernel) rfl rfl ?_
    refine ms_iload_n (k := 2) (p' := 9) (by decide +kernel) rfl rfl ?_
    refine ms_virt_i (idx := 107) (cy := yX_isPlace) (n := 1) (a := 2) (as := [.inl x2]) (rest := []) (p' := 12) (by decide +kernel) rfl rfl rfl rfl (k_2 hw) rfl (fun f3 v4 => ?_)
    refine ms_if_eq (off := 12) (t := 24) (p' := 15) (by decide +kernel) rfl (fun hc => ?_) (fun hc => ?_)
    · refine ms_sipush (n := (-2000)) (v := (-2000)) (p' := 27) (by decide +kernel) rfl ?_
      exact ms_iret (by decide +kernel)
    · refine ms_iload_n (k := 3) (p' := 16) (by decide +kernel) rfl rfl ?_
      refine ms_if_lt (off := 8) (t := 24) (p' := 19) (by decide +kernel) rfl (fun hc => ?_) (fun hc => ?_)
      · refine ms_sipush (n := (-2000)) (v := (-2000)) (p' := 27) (by decide +kernel) rfl ?_
        exact ms_iret (by decide +kernel)
      · refine ms_iload_n (k := 3) (p' := 20) (by decide +kernel) rfl rfl ?_
        refine ms_iconst (n := 1) (v := 1) (p' := 21) (by decide +kernel) rfl ?_
        refine ms_icmp_le (off := 7) (t := 28) (p' := 24) (by decide +kernel) rfl (fun hc => ?_) (fun hc => ?_)
        · refine ms_aload_n (k := 0) (p' := 29) (by decide +kernel) rfl rfl ?_
          refine ms_getr (idx := 34) (ci := 8) (k := 4) (q := 522) (p' := 32) (by decide +kernel) rfl (k_2 hw) (r_2_4 hw) (by decide) ?_
          refine ms_aload_n (k := 0) (p' := 33) (by decide +kernel) rfl rfl ?_
          refine ms_getr (idx := 25) (ci := 8) (k := 2) (q := 520) (p' := 36) (by decide +kernel) rfl (k_2 hw) (r_2_2 hw) (by decide) ?_
          refine ms_iload_n (k := 1) (p' := 37) (by decide +kernel) rfl rfl ?_
          refine ms_aald (p' := 38) (by decide +kernel) rfl (k_31 hw) (rz31 hw) (fun hj5 => ?_)
          refine ms_virt_u (idx := 318) (cy := yZ_becomeTimed) (n := 1) (a := 34) (as := [.inr (.inl (215 + 2 * x1.toNat))]) (rest := []) (p' := 41) (by decide +kernel) rfl rfl rfl rfl (zn_k zn34 hw) rfl (fun f6 => ?_)
          refine ms_aload_n (k := 0) (p' := 42) (by decide +kernel) rfl rfl ?_
          refine ms_getr (idx := 34) (ci := 8) (k := 4) (q := 522) (p' := 45) (by decide +kernel) rfl (k_2 hw) (r_2_4 hw) (by decide) ?_
          refine ms_aload_n (k := 0) (p' := 46) (by decide +kernel) rfl rfl ?_
          refine ms_getr (idx := 19) (ci := 8) (k := 1) (q := 519) (p' := 49) (by decide +kernel) rfl (k_2 hw) (r_2_1 hw) (pn_0 (pl_pn sw)) ?_
          refine ms_iload_n (k := 2) (p' := 50) (by decide +kernel) rfl rfl ?_
          refine ms_virt_u (idx := 235) (cy := yZ_waitIn) (n := 2) (a := 34) (as := [.inr (.inl (pl sw)), .inl x2]) (rest := []) (p' := 53) (by decide +kernel) rfl rfl rfl rfl (zn_k zn34 hw) rfl (fun f7 => ?_)
          refine ms_aload_n (k := 0) (p' := 54) (by decide +kernel) rfl rfl ?_
          refine ms_getr (idx := 34) (ci := 8) (k := 4) (q := 522) (p' := 57) (by decide +kernel) rfl (k_2 hw) (r_2_4 hw) (by decide) ?_
          refine ms_geti (idx := 273) (ci := 7) (k := 2) (q := 365) (p' := 60) (by decide +kernel) rfl (zn_k zn34 hw) ?_
          refine ms_if_eq (off := 7) (t := 67) (p' := 63) (by decide +kernel) rfl (fun hc => ?_) (fun hc => ?_)
          · refine ms_aload_n (k := 0) (p' := 68) (by decide +kernel) rfl rfl ?_
            refine ms_getr (idx := 34) (ci := 8) (k := 4) (q := 522) (p' := 71) (by decide +kernel) rfl (k_2 hw) (r_2_4 hw) (by decide) ?_
            refine ms_aload_n (k := 0) (p' := 72) (by decide +kernel) rfl rfl ?_
            refine ms_getr (idx := 34) (ci := 8) (k := 4) (q := 522) (p' := 75) (by decide +kernel) rfl (k_2 hw) (r_2_4 hw) (by decide) ?_
            refine ms_geti (idx := 284) (ci := 7) (k := 1) (q := 361) (p' := 78) (by decide +kernel) rfl (zn_k zn34 hw) ?_
            refine ms_iconst (n := 1) (v := 1) (p' := 79) (by decide +kernel) rfl ?_
            refine ms_isub (p' := 80) (by decide +kernel) rfl ?_
            refine ms_iconst (n := 0) (v := 0) (p' := 81) (by decide +kernel) rfl ?_
            refine ms_virt_i (idx := 308) (cy := yZ_cell) (n := 2) (a := 34) (as := [.inl (mj_w ((f7 34 1) - 1)), .inl 0]) (rest := []) (p' := 84) (by decide +kernel) rfl rfl rfl rfl (zn_k zn34 hw) rfl (fun f8 v9 => ?_)
            refine ms_iload_n (k := 3) (p' := 85) (by decide +kernel) rfl rfl ?_
            refine ms_stat_i (idx := 315) (cy := yX_tellBound) (n := 2) (as := [.inl v9, .inl x3]) (rest := []) (p' := 88) (by decide +kernel) rfl rfl rfl rfl rfl (fun f10 v11 => ?_)
            exact ms_iret (by decide +kernel)
          · refine ms_sipush (n := (-1000)) (v := (-1000)) (p' := 66) (by decide +kernel) rfl ?_
            exact ms_iret (by decide +kernel)
        · refine ms_sipush (n := (-2000)) (v := (-2000)) (p' := 27) (by decide +kernel) rfl ?_
          exact ms_iret (by decide +kernel)
theorem c_X_soonest {sw : Bool} {w : mj_W} (hw : wk sw w) (f : mj_F) (x1 : Int) (x2 : Int) (x3 : Int)  : mj_call yX_soonest w f [.inr (.inl 2), .inl x1, .inl x2, .inl x3] = mj_bi (mj_call yX_isTable w f [.inl x1]) (fun f1 v2 => if v2 = 0 then some (w, f1, some (.inl (-2000))) else mj_bi (mj_call yX_isEdge w f1 [.inr (.inl 2), .inl x2]) (fun f3 v4 => if v4 = 0 then some (w, f3, some (.inl (-2000))) else if x3 < 0 then some (w, f3, some (.inl (-2000))) else if x3 ≤ 1 then mj_gd (0 ≤ x1 ∧ x1 < ((4 : Nat) : Int)) (mj_bu (mj_call yZ_becomeTimed w f3 [.inr (.inl 34), .inr (.inl (215 + 2 * x1.toNat))]) (fun f6 => mj_gd (0 ≤ x2 ∧ x2 < ((16 : Nat) : Int)) (mj_bu (mj_call yZ_waitIn w f6 [.inr (.inl 34), .inr (.inl (pl sw)), .inl (f6 (pl sw + 8) x2.toNat)]) (fun f8 => mj_bi (mj_call yX_edgeRules w f8 [.inl x2]) (fun f9 v10 => mj_bu (mj_call yZ_keepRules w f9 [.inr (.inl 34), .inr (.inl (pl sw)), .inl v10]) (fun f11 => if (f11 34 2) = 0 then if ¬ x3 = 0 then mj_bi (mj_call yZ_cell w f11 [.inr (.inl 34), .inl 0, .inl (mj_w ((f11 34 1) - 1))]) (fun f12 v13 => mj_bi (mj_call yX_reachedOf w f12 [.inl v13]) (fun f14 v15 => some (w, f14, some (.inl v15)))) else mj_bi (mj_call yZ_leastOf w f11 [.inr (.inl 34), .inl (mj_w ((f11 34 1) - 1))]) (fun f16 v17 => some (w, f16, some (.inl v17))) else some (w, f11, some (.inl (-1000))))))))) else some (w, f3, some (.inl (-2000))))) := by
  show mj_run yX_soonest w f 0 [.inr (.inl 2), .inl x1, .inl x2, .inl x3, .inr (.inr (.inr 0))] [] = _
  refine ms_iload_n (k := 1) (p' := 1) (by decide +kernel) rfl rfl ?_
  refine ms_stat_i (idx := 182) (cy := yX_isTable) (n := 1) (as := [.inl x1]) (rest := []) (p' := 4) (by decide +kernel) rfl rfl rfl rfl rfl (fun f1 v2 => ?_)
  refine ms_if_eq (off := 20) (t := 24) (p' := 7) (by decide +kernel) rfl (fun hc => ?_) (fun hc => ?_)
  · refine ms_sipush (n := (-2000)) (v := (-2000)) (p' := 27) (by decide +kernel) rfl ?_
    exact ms_iret (by decide +kernel)
  · refine ms_aload_n (k := 0) (p' := 8) (by decide +kernel) rfl rfl ?_
    refine ms_iload_n (k := 2) (p' := 9) (by decide +kernel) rfl rfl ?_
    refine ms_virt_i (idx := 141) (cy := yX_isEdge) (n := 1) (a := 2) (as := [.inl x2]) (rest := []) (p' := 12) (by decide +kernel) rfl rfl rfl rfl (k_2 hw) rfl (fun f3 v4 => ?_)
    refine ms_if_eq (off := 12) (t := 24) (p' := 15) (by decide +kernel) rfl (fun hc => ?_) (fun hc => ?_)
    · refine ms_sipush (n := (-2000)) (v := (-2000)) (p' := 27) (by decide +kernel) rfl ?_
      exact ms_iret (by decide +kernel)
    · refine ms_iload_n (k := 3) (p' := 16) (by decide +kernel) rfl rfl ?_
      refine ms_if_lt (off := 8) (t := 24) (p' := 19) (by decide +kernel) rfl (fun hc => ?_) (fun hc => ?_)
      · refine ms_sipush (n := (-2000)) (v := (-2000)) (p' := 27) (by decide +kernel) rfl ?_
        exact ms_iret (by decide +kernel)
      · refine ms_iload_n (k := 3) (p' := 20) (by decide +kernel) rfl rfl ?_
        refine ms_iconst (n := 1) (v := 1) (p' := 21) (by decide +kernel) rfl ?_
        refine ms_icmp_le (off := 7) (t := 28) (p' := 24) (by decide +kernel) rfl (fun hc => ?_) (fun hc => ?_)
        · refine ms_aload_n (k := 0) (p' := 29) (by decide +kernel) rfl rfl ?_
          refine ms_getr (idx := 34) (ci := 8) (k := 4) (q := 522) (p' := 32) (by decide +kernel) rfl (k_2 hw) (r_2_4 hw) (by decide) ?_
          refine ms_aload_n (k := 0) (p' := 33) (by decide +kernel) rfl rfl ?_
          refine ms_getr (idx := 25) (ci := 8) (k := 2) (q := 520) (p' := 36) (by decide +kernel) rfl (k_2 hw) (r_2_2 hw) (by decide) ?_
          refine ms_iload_n (k := 1) (p' := 37) (by decide +kernel) rfl rfl ?_
          refine ms_aald (p' := 38) (by decide +kernel) rfl (k_31 hw) (rz31 hw) (fun hj5 => ?_)
          refine ms_virt_u (idx := 318) (cy := yZ_becomeTimed) (n := 1) (a := 34) (as := [.inr (.inl (215 + 2 * x1.toNat))]) (rest := []) (p' := 41) (by decide +kernel) rfl rfl rfl rfl (zn_k zn34 hw) rfl (fun f6 => ?_)
          refine ms_aload_n (k := 0) (p' := 42) (by decide +kernel) rfl rfl ?_
          refine ms_getr (idx := 34) (ci := 8) (k := 4) (q := 522) (p' := 45) (by decide +kernel) rfl (k_2 hw) (r_2_4 hw) (by decide) ?_
          refine ms_aload_n (k := 0) (p' := 46) (by decide +kernel) rfl rfl ?_
          refine ms_getr (idx := 19) (ci := 8) (k := 1) (q := 519) (p' := 49) (by decide +kernel) rfl (k_2 hw) (r_2_1 hw) (pn_0 (pl_pn sw)) ?_
          refine ms_aload_n (k := 0) (p' := 50) (by decide +kernel) rfl rfl ?_
          refine ms_getr (idx := 19) (ci := 8) (k := 1) (q := 519) (p' := 53) (by decide +kernel) rfl (k_2 hw) (r_2_1 hw) (pn_0 (pl_pn sw)) ?_
          refine ms_getr (idx := 146) (ci := 3) (k := 13) (q := 251) (p' := 56) (by decide +kernel) rfl (pn_k (pl_pn sw) hw) (pn_r13 (pl_pn sw) hw) (by omega) ?_
          refine ms_iload_n (k := 2) (p' := 57) (by decide +kernel) rfl rfl ?_
          refine ms_iald (p' := 58) (by decide +kernel) rfl (pn_k13 (pl_pn sw) hw) (fun hj7 => ?_)
          refine ms_virt_u (idx := 235) (cy := yZ_waitIn) (n := 2) (a := 34) (as := [.inr (.inl (pl sw)), .inl (f6 (pl sw + 8) x2.toNat)]) (rest := []) (p' := 61) (by decide +kernel) rfl rfl rfl rfl (zn_k zn34 hw) rfl (fun f8 => ?_)
          refine ms_aload_n (k := 0) (p' := 62) (by decide +kernel) rfl rfl ?_
          refine ms_getr (idx := 34) (ci := 8) (k := 4) (q := 522) (p' := 65) (by decide +kernel) rfl (k_2 hw) (r_2_4 hw) (by decide) ?_
          refine ms_aload_n (k := 0) (p' := 66) (by decide +kernel) rfl rfl ?_
          refine ms_getr (idx := 19) (ci := 8) (k := 1) (q := 519) (p' := 69) (by decide +kernel) rfl (k_2 hw) (r_2_1 hw) (pn_0 (pl_pn sw)) ?_
          refine ms_iload_n (k := 2) (p' := 70) (by decide +kernel) rfl rfl ?_
          refine ms_stat_i (idx := 152) (cy := yX_edgeRules) (n := 1) (as := [.inl x2]) (rest := [.inr (.inl (pl sw)), .inr (.inl 34)]) (p' := 73) (by decide +kernel) rfl rfl rfl rfl rfl (fun f9 v10 => ?_)
          refine ms_virt_u (idx := 321) (cy := yZ_keepRules) (n := 2) (a := 34) (as := [.inr (.inl (pl sw)), .inl v10]) (rest := []) (p' := 76) (by decide +kernel) rfl rfl rfl rfl (zn_k zn34 hw) rfl (fun f11 => ?_)
          refine ms_aload_n (k := 0) (p' := 77) (by decide +kernel) rfl rfl ?_
          refine ms_getr (idx := 34) (ci := 8) (k := 4) (q := 522) (p' := 80) (by decide +kernel) rfl (k_2 hw) (r_2_4 hw) (by decide) ?_
          refine ms_geti (idx := 273) (ci := 7) (k := 2) (q := 365) (p' := 83) (by decide +kernel) rfl (zn_k zn34 hw) ?_
          refine ms_if_eq (off := 7) (t := 90) (p' := 86) (by decide +kernel) rfl (fun hc => ?_) (fun hc => ?_)
          · refine ms_aload_n (k := 0) (p' := 91) (by decide +kernel) rfl rfl ?_
            refine ms_getr (idx := 34) (ci := 8) (k := 4) (q := 522) (p' := 94) (by decide +kernel) rfl (k_2 hw) (r_2_4 hw) (by decide) ?_
            refine ms_geti (idx := 284) (ci := 7) (k := 1) (q := 361) (p' := 97) (by decide +kernel) rfl (zn_k zn34 hw) ?_
            refine ms_iconst (n := 1) (v := 1) (p' := 98) (by decide +kernel) rfl ?_
            refine ms_isub (p' := 99) (by decide +kernel) rfl ?_
            refine ms_istore (k := 4) (ls' := [.inr (.inl 2), .inl x1, .inl x2, .inl x3, .inl (mj_w ((f11 34 1) - 1))]) (p' := 101) (by decide +kernel) rfl (Nat.le_of_ble_eq_true rfl) rfl ?_
            refine ms_iload_n (k := 3) (p' := 102) (by decide +kernel) rfl rfl ?_
            refine ms_if_ne (off := 15) (t := 117) (p' := 105) (by decide +kernel) rfl (fun hc => ?_) (fun hc => ?_)
            · refine ms_aload_n (k := 0) (p' := 118) (by decide +kernel) rfl rfl ?_
              refine ms_getr (idx := 34) (ci := 8) (k := 4) (q := 522) (p' := 121) (by decide +kernel) rfl (k_2 hw) (r_2_4 hw) (by decide) ?_
              refine ms_iconst (n := 0) (v := 0) (p' := 122) (by decide +kernel) rfl ?_
              refine ms_iload (k := 4) (p' := 124) (by decide +kernel) rfl rfl ?_
              refine ms_virt_i (idx := 308) (cy := yZ_cell) (n := 2) (a := 34) (as := [.inl 0, .inl (mj_w ((f11 34 1) - 1))]) (rest := []) (p' := 127) (by decide +kernel) rfl rfl rfl rfl (zn_k zn34 hw) rfl (fun f12 v13 => ?_)
              refine ms_stat_i (idx := 324) (cy := yX_reachedOf) (n := 1) (as := [.inl v13]) (rest := []) (p' := 130) (by decide +kernel) rfl rfl rfl rfl rfl (fun f14 v15 => ?_)
              exact ms_iret (by decide +kernel)
            · refine ms_aload_n (k := 0) (p' := 106) (by decide +kernel) rfl rfl ?_
              refine ms_getr (idx := 34) (ci := 8) (k := 4) (q := 522) (p' := 109) (by decide +kernel) rfl (k_2 hw) (r_2_4 hw) (by decide) ?_
              refine ms_iload (k := 4) (p' := 111) (by decide +kernel) rfl rfl ?_
              refine ms_virt_i (idx := 305) (cy := yZ_leastOf) (n := 1) (a := 34) (as := [.inl (mj_w ((f11 34 1) - 1))]) (rest := []) (p' := 114) (by decide +kernel) rfl rfl rfl rfl (zn_k zn34 hw) rfl (fun f16 v17 => ?_)
              refine ms_goto (off := 16) (p' := 130) (by decide +kernel) ?_
              exact ms_iret (by decide +kernel)
          · refine ms_sipush (n := (-1000)) (v := (-1000)) (p' := 89) (by decide +kernel) rfl ?_
            exact ms_iret (by decide +kernel)
        · refine ms_sipush (n := (-2000)) (v := (-2000)) (p' := 27) (by decide +kernel) rfl ?_
          exact ms_iret (by decide +kernel)
theorem c_X_leads {sw : Bool} {w : mj_W} (hw : wk sw w) (f : mj_F) (x1 : Int)  : mj_call yX_leads w f [.inr (.inl 2), .inl x1] = mj_bi (mj_call yX_isPlace w f [.inr (.inl 2), .inl x1]) (fun f1 v2 => if v2 = 0 then some (w, f1, some (.inl (-1))) else mj_bi (mj_call yL_placesBehind w f1 [.inr (.inl (pl sw)), .inl x1]) (fun f3 v4 => some (w, f3, some (.inl v4)))) := by
  show mj_run yX_leads w f 0 [.inr (.inl 2), .inl x1] [] = _
  refine ms_aload_n (k := 0) (p' := 1) (by decide +kernel) rfl rfl ?_
  refine ms_iload_n (k := 1) (p' := 2) (by decide +kernel) rfl rfl ?_
  refine ms_virt_i (idx := 107) (cy := yX_isPlace) (n := 1) (a := 2) (as := [.inl x1]) (rest := []) (p' := 5) (by decide +kernel) rfl rfl rfl rfl (k_2 hw) rfl (fun f1 v2 => ?_)
  refine ms_if_eq (off := 14) (t := 19) (p' := 8) (by decide +kernel) rfl (fun hc => ?_) (fun hc => ?_)
  · refine ms_iconst (n := (-1)) (v := (-1)) (p' := 20) (by decide +kernel) rfl ?_
    exact ms_iret (by decide +kernel)
  · refine ms_aload_n (k := 0) (p' := 9) (by decide +kernel) rfl rfl ?_
    refine ms_getr (idx := 19) (ci := 8) (k := 1) (q := 519) (p' := 12) (by decide +kernel) rfl (k_2 hw) (r_2_1 hw) (pn_0 (pl_pn sw)) ?_
    refine ms_iload_n (k := 1) (p' := 13) (by decide +kernel) rfl rfl ?_
    refine ms_virt_i (idx := 352) (cy := yL_placesBehind) (n := 1) (a := (pl sw)) (as := [.inl x1]) (rest := []) (p' := 16) (by decide +kernel) rfl rfl rfl rfl (pn_k (pl_pn sw) hw) rfl (fun f3 v4 => ?_)
    refine ms_goto (off := 4) (p' := 20) (by decide +kernel) ?_
    exact ms_iret (by decide +kernel)
theorem c_X_fastest {sw : Bool} {w : mj_W} (hw : wk sw w) (f : mj_F) (x1 : Int) (x2 : Int)  : mj_call yX_fastest w f [.inr (.inl 2), .inl x1, .inl x2] = mj_bi (mj_call yX_isPlace w f [.inr (.inl 2), .inl x1]) (fun f1 v2 => if v2 = 0 then some (w, f1, some (.inl (-1))) else if x2 < 0 then some (w, f1, some (.inl (-1))) else if x2 ≤ 1 then mj_bi (mj_call yG_findWay w f1 [.inr (.inl 37), .inl x1]) (fun f3 v4 => if 0 ≤ v4 then mj_bi (mj_call yW_breakIn w f3 [.inr (.inl 175), .inr (.inl (pl sw)), .inr (.inl 45), .inl v4]) (fun f5 v6 => if v6 = (-2) then if ¬ x2 = 0 then mj_bi (mj_call yZ_cell w f5 [.inr (.inl 176), .inl 0, .inl (mj_w ((f5 176 1) - 1))]) (fun f7 v8 => mj_bi (mj_call yX_reachedOf w f7 [.inl v8]) (fun f9 v10 => some (w, f9, some (.inl v10)))) else mj_bi (mj_call yZ_leastOf w f5 [.inr (.inl 176), .inl (mj_w ((f5 176 1) - 1))]) (fun f11 v12 => some (w, f11, some (.inl v12))) else some (w, f5, some (.inl (-3)))) else some (w, f3, some (.inl (-2)))) else some (w, f1, some (.inl (-1)))) := by
  show mj_run yX_fastest w f 0 [.inr (.inl 2), .inl x1, .inl x2, .inr (.inr (.inr 0)), .inr (.inr (.inr 0)), .inr (.inr (.inr 0))] [] = _
  refine ms_aload_n (k := 0) (p' := 1) (by decide +kernel) rfl rfl ?_
  refine ms_iload_n (k := 1) (p' := 2) (by decide +kernel) rfl rfl ?_
  refine ms_virt_i (idx := 107) (cy := yX_isPlace) (n := 1) (a := 2) (as := [.inl x1]) (rest := []) (p' := 5) (by decide +kernel) rfl rfl rfl rfl (k_2 hw) rfl (fun f1 v2 => ?_)
  refine ms_if_eq (off := 12) (t := 17) (p' := 8) (by decide +kernel) rfl (fun hc => ?_) (fun hc => ?_)
  · refine ms_iconst (n := (-1)) (v := (-1)) (p' := 18) (by decide +kernel) rfl ?_
    exact ms_iret (by decide +kernel)
  · refine ms_iload_n (k := 2) (p' := 9) (by decide +kernel) rfl rfl ?_
    refine ms_if_lt (off := 8) (t := 17) (p' := 12) (by decide +kernel) rfl (fun hc => ?_) (fun hc => ?_)
    · refine ms_iconst (n := (-1)) (v := (-1)) (p' := 18) (by decide +kernel) rfl ?_
      exact ms_iret (by decide +kernel)
    · refine ms_iload_n (k := 2) (p' := 13) (by decide +kernel) rfl rfl ?_
      refine ms_iconst (n := 1) (v := 1) (p' := 14) (by decide +kernel) rfl ?_
      refine ms_icmp_le (off := 5) (t := 19) (p' := 17) (by decide +kernel) rfl (fun hc => ?_) (fun hc => ?_)
      · refine ms_aload_n (k := 0) (p' := 20) (by decide +kernel) rfl rfl ?_
        refine ms_getr (idx := 44) (ci := 8) (k := 6) (q := 524) (p' := 23) (by decide +kernel) rfl (k_2 hw) (r_2_6 hw) (by decide) ?_
        refine ms_iload_n (k := 1) (p' := 24) (by decide +kernel) rfl rfl ?_
        refine ms_virt_i (idx := 340) (cy := yG_findWay) (n := 1) (a := 37) (as := [.inl x1]) (rest := []) (p' := 27) (by decide +kernel) rfl rfl rfl rfl (k_37 hw) rfl (fun f3 v4 => ?_)
        refine ms_istore_n (k := 3) (ls' := [.inr (.inl 2), .inl x1, .inl x2, .inl v4, .inr (.inr (.inr 0)), .inr (.inr (.inr 0))]) (p' := 28) (by decide +kernel) rfl (Nat.le_of_ble_eq_true rfl) rfl ?_
        refine ms_iload_n (k := 3) (p' := 29) (by decide +kernel) rfl rfl ?_
        refine ms_if_ge (off := 6) (t := 35) (p' := 32) (by decide +kernel) rfl (fun hc => ?_) (fun hc => ?_)
        · refine ms_aload_n (k := 0) (p' := 36) (by decide +kernel) rfl rfl ?_
          refine ms_getr (idx := 65) (ci := 8) (k := 9) (q := 527) (p' := 39) (by decide +kernel) rfl (k_2 hw) (r_2_9 hw) (by decide) ?_
          refine ms_aload_n (k := 0) (p' := 40) (by decide +kernel) rfl rfl ?_
          refine ms_getr (idx := 19) (ci := 8) (k := 1) (q := 519) (p' := 43) (by decide +kernel) rfl (k_2 hw) (r_2_1 hw) (pn_0 (pl_pn sw)) ?_
          refine ms_aload_n (k := 0) (p' := 44) (by decide +kernel) rfl rfl ?_
          refine ms_getr (idx := 44) (ci := 8) (k := 6) (q := 524) (p' := 47) (by decide +kernel) rfl (k_2 hw) (r_2_6 hw) (by decide) ?_
          refine ms_getr (idx := 343) (ci := 0) (k := 7) (q := 396) (p' := 50) (by decide +kernel) rfl (k_37 hw) (r_37_7 hw) (by decide) ?_
          refine ms_iload_n (k := 3) (p' := 51) (by decide +kernel) rfl rfl ?_
          refine ms_virt_i (idx := 355) (cy := yW_breakIn) (n := 3) (a := 175) (as := [.inr (.inl (pl sw)), .inr (.inl 45), .inl v4]) (rest := []) (p' := 54) (by decide +kernel) rfl rfl rfl rfl (k_175 hw) rfl (fun f5 v6 => ?_)
          refine ms_bipush (n := (-2)) (v := (-2)) (p' := 56) (by decide +kernel) rfl ?_
          refine ms_icmp_eq (off := 6) (t := 62) (p' := 59) (by decide +kernel) rfl (fun hc => ?_) (fun hc => ?_)
          · refine ms_aload_n (k := 0) (p' := 63) (by decide +kernel) rfl rfl ?_
            refine ms_getr (idx := 65) (ci := 8) (k := 9) (q := 527) (p' := 66) (by decide +kernel) rfl (k_2 hw) (r_2_9 hw) (by decide) ?_
            refine ms_getr (idx := 359) (ci := 6) (k := 0) (q := 484) (p' := 69) (by decide +kernel) rfl (k_175 hw) (r_175_0 hw) (by decide) ?_
            refine ms_astore (k := 4) (ls' := [.inr (.inl 2), .inl x1, .inl x2, .inl v4, .inr (.inl 176), .inr (.inr (.inr 0))]) (p' := 71) (by decide +kernel) rfl (Nat.le_of_ble_eq_true rfl) rfl ?_
            refine ms_aload (k := 4) (p' := 73) (by decide +kernel) rfl rfl ?_
            refine ms_geti (idx := 284) (ci := 7) (k := 1) (q := 361) (p' := 76) (by decide +kernel) rfl (zn_k zn176 hw) ?_
            refine ms_iconst (n := 1) (v := 1) (p' := 77) (by decide +kernel) rfl ?_
            refine ms_isub (p' := 78) (by decide +kernel) rfl ?_
            refine ms_istore (k := 5) (ls' := [.inr (.inl 2), .inl x1, .inl x2, .inl v4, .inr (.inl 176), .inl (mj_w ((f5 176 1) - 1))]) (p' := 80) (by decide +kernel) rfl (Nat.le_of_ble_eq_true rfl) rfl ?_
            refine ms_iload_n (k := 2) (p' := 81) (by decide +kernel) rfl rfl ?_
            refine ms_if_ne (off := 13) (t := 94) (p' := 84) (by decide +kernel) rfl (fun hc => ?_) (fun hc => ?_)
            · refine ms_aload (k := 4) (p' := 96) (by decide +kernel) rfl rfl ?_
              refine ms_iconst (n := 0) (v := 0) (p' := 97) (by decide +kernel) rfl ?_
              refine ms_iload (k := 5) (p' := 99) (by decide +kernel) rfl rfl ?_
              refine ms_virt_i (idx := 308) (cy := yZ_cell) (n := 2) (a := 176) (as := [.inl 0, .inl (mj_w ((f5 176 1) - 1))]) (rest := []) (p' := 102) (by decide +kernel) rfl rfl rfl rfl (zn_k zn176 hw) rfl (fun f7 v8 => ?_)
              refine ms_stat_i (idx := 324) (cy := yX_reachedOf) (n := 1) (as := [.inl v8]) (rest := []) (p' := 105) (by decide +kernel) rfl rfl rfl rfl rfl (fun f9 v10 => ?_)
              exact ms_iret (by decide +kernel)
            · refine ms_aload (k := 4) (p' := 86) (by decide +kernel) rfl rfl ?_
              refine ms_iload (k := 5) (p' := 88) (by decide +kernel) rfl rfl ?_
              refine ms_virt_i (idx := 305) (cy := yZ_leastOf) (n := 1) (a := 176) (as := [.inl (mj_w ((f5 176 1) - 1))]) (rest := []) (p' := 91) (by decide +kernel) rfl rfl rfl rfl (zn_k zn176 hw) rfl (fun f11 v12 => ?_)
              refine ms_goto (off := 14) (p' := 105) (by decide +kernel) ?_
              exact ms_iret (by decide +kernel)
          · refine ms_bipush (n := (-3)) (v := (-3)) (p' := 61) (by decide +kernel) rfl ?_
            exact ms_iret (by decide +kernel)
        · refine ms_bipush (n := (-2)) (v := (-2)) (p' := 34) (by decide +kernel) rfl ?_
          exact ms_iret (by decide +kernel)
      · refine ms_iconst (n := (-1)) (v := (-1)) (p' := 18) (by decide +kernel) rfl ?_
        exact ms_iret (by decide +kernel)
theorem c_X_deepest {sw : Bool} {w : mj_W} (hw : wk sw w) (f : mj_F) (x1 : Int)  : mj_call yX_deepest w f [.inr (.inl 2), .inl x1] = if x1 < 0 then some (w, f, some (.inl (-1))) else if x1 ≤ 1 then mj_run yX_deepest w f 20 [.inr (.inl 2), .inl x1, .inl (-2), .inl (-2), .inl 0, .inr (.inr (.inr 0))] [] else some (w, f, some (.inl (-1))) := by
  show mj_run yX_deepest w f 0 [.inr (.inl 2), .inl x1, .inr (.inr (.inr 0)), .inr (.inr (.inr 0)), .inr (.inr (.inr 0)), .inr (.inr (.inr 0))] [] = _
  refine ms_iload_n (k := 1) (p' := 1) (by decide +kernel) rfl rfl ?_
  refine ms_if_lt (off := 8) (t := 9) (p' := 4) (by decide +kernel) rfl (fun hc => ?_) (fun hc => ?_)
  · refine ms_iconst (n := (-1)) (v := (-1)) (p' := 10) (by decide +kernel) rfl ?_
    exact ms_iret (by decide +kernel)
  · refine ms_iload_n (k := 1) (p' := 5) (by decide +kernel) rfl rfl ?_
    refine ms_iconst (n := 1) (v := 1) (p' := 6) (by decide +kernel) rfl ?_
    refine ms_icmp_le (off := 5) (t := 11) (p' := 9) (by decide +kernel) rfl (fun hc => ?_) (fun hc => ?_)
    · refine ms_bipush (n := (-2)) (v := (-2)) (p' := 13) (by decide +kernel) rfl ?_
      refine ms_istore_n (k := 2) (ls' := [.inr (.inl 2), .inl x1, .inl (-2), .inr (.inr (.inr 0)), .inr (.inr (.inr 0)), .inr (.inr (.inr 0))]) (p' := 14) (by decide +kernel) rfl (Nat.le_of_ble_eq_true rfl) rfl ?_
      refine ms_bipush (n := (-2)) (v := (-2)) (p' := 16) (by decide +kernel) rfl ?_
      refine ms_istore_n (k := 3) (ls' := [.inr (.inl 2), .inl x1, .inl (-2), .inl (-2), .inr (.inr (.inr 0)), .inr (.inr (.inr 0))]) (p' := 17) (by decide +kernel) rfl (Nat.le_of_ble_eq_true rfl) rfl ?_
      refine ms_iconst (n := 0) (v := 0) (p' := 18) (by decide +kernel) rfl ?_
      refine ms_istore (k := 4) (ls' := [.inr (.inl 2), .inl x1, .inl (-2), .inl (-2), .inl 0, .inr (.inr (.inr 0))]) (p' := 20) (by decide +kernel) rfl (Nat.le_of_ble_eq_true rfl) rfl ?_
      rfl
    · refine ms_iconst (n := (-1)) (v := (-1)) (p' := 10) (by decide +kernel) rfl ?_
      exact ms_iret (by decide +kernel)
theorem l_X_deepest_20 {sw : Bool} {w : mj_W} (hw : wk sw w) (f : mj_F) (x1 : Int) (x2 : Int) (x3 : Int) (x4 : Int) (u5 : mj_V)  : mj_run yX_deepest w f 20 [.inr (.inl 2), .inl x1, .inl x2, .inl x3, .inl x4, u5] [] = if (f (pl sw) 2) ≤ x4 then if ¬ x1 = 0 then some (w, f, some (.inl x3)) else some (w, f, some (.inl x2)) else mj_gd (0 ≤ x4 ∧ x4 < ((8 : Nat) : Int)) (if (f 44 x4.toNat) < 0 then mj_run yX_deepest w f 20 [.inr (.inl 2), .inl x1, .inl x2, .inl x3, .inl (mj_w (x4 + 1)), .inl (f 44 x4.toNat)] [] else mj_gd (0 ≤ (f 44 x4.toNat) ∧ (f 44 x4.toNat) < ((60 : Nat) : Int)) (if (f 42 (f 44 x4.toNat).toNat) ≤ x3 then mj_run yX_deepest w f 20 [.inr (.inl 2), .inl x1, .inl x2, .inl x3, .inl (mj_w (x4 + 1)), .inl (f 44 x4.toNat)] [] else mj_gd (0 ≤ (f 44 x4.toNat) ∧ (f 44 x4.toNat) < ((60 : Nat) : Int)) (mj_run yX_deepest w f 20 [.inr (.inl 2), .inl x1, .inl x4, .inl (f 42 (f 44 x4.toNat).toNat), .inl (mj_w (x4 + 1)), .inl (f 44 x4.toNat)] []))) := by
  refine ms_iload (k := 4) (p' := 22) (by decide +kernel) rfl rfl ?_
  refine ms_aload_n (k := 0) (p' := 23) (by decide +kernel) rfl rfl ?_
  refine ms_getr (idx := 19) (ci := 8) (k := 1) (q := 519) (p' := 26) (by decide +kernel) rfl (k_2 hw) (r_2_1 hw) (pn_0 (pl_pn sw)) ?_
  refine ms_geti (idx := 350) (ci := 3) (k := 2) (q := 210) (p' := 29) (by decide +kernel) rfl (pn_k (pl_pn sw) hw) ?_
  refine ms_icmp_ge (off := 54) (t := 83) (p' := 32) (by decide +kernel) rfl (fun hc => ?_) (fun hc => ?_)
  · refine ms_iload_n (k := 1) (p' := 84) (by decide +kernel) rfl rfl ?_
    refine ms_if_ne (off := 7) (t := 91) (p' := 87) (by decide +kernel) rfl (fun hc => ?_) (fun hc => ?_)
    · refine ms_iload_n (k := 3) (p' := 92) (by decide +kernel) rfl rfl ?_
      exact ms_iret (by decide +kernel)
    · refine ms_iload_n (k := 2) (p' := 88) (by decide +kernel) rfl rfl ?_
      refine ms_goto (off := 4) (p' := 92) (by decide +kernel) ?_
      exact ms_iret (by decide +kernel)
  · refine ms_aload_n (k := 0) (p' := 33) (by decide +kernel) rfl rfl ?_
    refine ms_getr (idx := 44) (ci := 8) (k := 6) (q := 524) (p' := 36) (by decide +kernel) rfl (k_2 hw) (r_2_6 hw) (by decide) ?_
    refine ms_getr (idx := 130) (ci := 0) (k := 6) (q := 394) (p' := 39) (by decide +kernel) rfl (k_37 hw) (r_37_6 hw) (by decide) ?_
    refine ms_iload (k := 4) (p' := 41) (by decide +kernel) rfl rfl ?_
    refine ms_iald (p' := 42) (by decide +kernel) rfl (k_44 hw) (fun hj1 => ?_)
    refine ms_istore (k := 5) (ls' := [.inr (.inl 2), .inl x1, .inl x2, .inl x3, .inl x4, .inl (f 44 x4.toNat)]) (p' := 44) (by decide +kernel) rfl (Nat.le_of_ble_eq_true rfl) rfl ?_
    refine ms_iload (k := 5) (p' := 46) (by decide +kernel) rfl rfl ?_
    refine ms_if_lt (off := 31) (t := 77) (p' := 49) (by decide +kernel) rfl (fun hc => ?_) (fun hc => ?_)
    · refine ms_iinc (k := 4) (n := 1) (ls' := [.inr (.inl 2), .inl x1, .inl x2, .inl x3, .inl (mj_w (x4 + 1)), .inl (f 44 x4.toNat)]) (p' := 80) (by decide +kernel) rfl rfl rfl ?_
      refine ms_goto (off := (-60)) (p' := 20) (by decide +kernel) ?_
      rfl
    · refine ms_aload_n (k := 0) (p' := 50) (by decide +kernel) rfl rfl ?_
      refine ms_getr (idx := 44) (ci := 8) (k := 6) (q := 524) (p' := 53) (by decide +kernel) rfl (k_2 hw) (r_2_6 hw) (by decide) ?_
      refine ms_getr (idx := 337) (ci := 0) (k := 4) (q := 391) (p' := 56) (by decide +kernel) rfl (k_37 hw) (r_37_4 hw) (by decide) ?_
      refine ms_iload (k := 5) (p' := 58) (by decide +kernel) rfl rfl ?_
      refine ms_iald (p' := 59) (by decide +kernel) rfl (k_42 hw) (fun hj2 => ?_)
      refine ms_iload_n (k := 3) (p' := 60) (by decide +kernel) rfl rfl ?_
      refine ms_icmp_le (off := 17) (t := 77) (p' := 63) (by decide +kernel) rfl (fun hc => ?_) (fun hc => ?_)
      · refine ms_iinc (k := 4) (n := 1) (ls' := [.inr (.inl 2), .inl x1, .inl x2, .inl x3, .inl (mj_w (x4 + 1)), .inl (f 44 x4.toNat)]) (p' := 80) (by decide +kernel) rfl rfl rfl ?_
        refine ms_goto (off := (-60)) (p' := 20) (by decide +kernel) ?_
        rfl
      · refine ms_iload (k := 4) (p' := 65) (by decide +kernel) rfl rfl ?_
        refine ms_istore_n (k := 2) (ls' := [.inr (.inl 2), .inl x1, .inl x4, .inl x3, .inl x4, .inl (f 44 x4.toNat)]) (p' := 66) (by decide +kernel) rfl (Nat.le_of_ble_eq_true rfl) rfl ?_
        refine ms_aload_n (k := 0) (p' := 67) (by decide +kernel) rfl rfl ?_
        refine ms_getr (idx := 44) (ci := 8) (k := 6) (q := 524) (p' := 70) (by decide +kernel) rfl (k_2 hw) (r_2_6 hw) (by decide) ?_
        refine ms_getr (idx := 337) (ci := 0) (k := 4) (q := 391) (p' := 73) (by decide +kernel) rfl (k_37 hw) (r_37_4 hw) (by decide) ?_
        refine ms_iload (k := 5) (p' := 75) (by decide +kernel) rfl rfl ?_
        refine ms_iald (p' := 76) (by decide +kernel) rfl (k_42 hw) (fun hj3 => ?_)
        refine ms_istore_n (k := 3) (ls' := [.inr (.inl 2), .inl x1, .inl x4, .inl (f 42 (f 44 x4.toNat).toNat), .inl x4, .inl (f 44 x4.toNat)]) (p' := 77) (by decide +kernel) rfl (Nat.le_of_ble_eq_true rfl) rfl ?_
        refine ms_iinc (k := 4) (n := 1) (ls' := [.inr (.inl 2), .inl x1, .inl x4, .inl (f 42 (f 44 x4.toNat).toNat), .inl (mj_w (x4 + 1)), .inl (f 44 x4.toNat)]) (p' := 80) (by decide +kernel) rfl rfl rfl ?_
        refine ms_goto (off := (-60)) (p' := 20) (by decide +kernel) ?_
        rfl
theorem c_X_tells {sw : Bool} {w : mj_W} (hw : wk sw w) (f : mj_F) (x1 : Int) (x2 : Int)  : mj_call yX_tells w f [.inr (.inl 2), .inl x1, .inl x2] = mj_bi (mj_call yX_isClock w f [.inr (.inl 2), .inl x1]) (fun f1 v2 => if ¬ v2 = 0 then if x2 = 0 then mj_bi (mj_call yL_listsWith w f1 [.inr (.inl (pl sw)), .inl x1, .inl 8, .inl (f1 (pl sw) 3)]) (fun f3 v4 => some (w, f3, some (.inl v4))) else if x2 = 1 then mj_bi (mj_call yL_edgesThatSet w f1 [.inr (.inl (pl sw)), .inl x1]) (fun f5 v6 => some (w, f5, some (.inl v6))) else if x2 = 2 then mj_bi (mj_call yL_listsWith w f1 [.inr (.inl (pl sw)), .inl x1, .inl 0, .inl (f1 (pl sw) 2)]) (fun f7 v8 => some (w, f7, some (.inl v8))) else some (w, f1, some (.inl (-1))) else some (w, f1, some (.inl (-1)))) := by
  show mj_run yX_tells w f 0 [.inr (.inl 2), .inl x1, .inl x2] [] = _
  refine ms_aload_n (k := 0) (p' := 1) (by decide +kernel) rfl rfl ?_
  refine ms_iload_n (k := 1) (p' := 2) (by decide +kernel) rfl rfl ?_
  refine ms_virt_i (idx := 176) (cy := yX_isClock) (n := 1) (a := 2) (as := [.inl x1]) (rest := []) (p' := 5) (by decide +kernel) rfl rfl rfl rfl (k_2 hw) rfl (fun f1 v2 => ?_)
  refine ms_if_ne (off := 5) (t := 10) (p' := 8) (by decide +kernel) rfl (fun hc => ?_) (fun hc => ?_)
  · refine ms_iload_n (k := 2) (p' := 11) (by decide +kernel) rfl rfl ?_
    have hd : mj_dec yX_tells 11 = some (.tableswitch 69 0 2 #[25, 43, 52]) := by decide +kernel
    by_cases hs0 : x2 = 0
    · rw [if_pos hs0]
      refine ms_tabIn (t := 36) hd (by omega) (by rw [hs0]; decide +kernel) ?_
      refine ms_aload_n (k := 0) (p' := 37) (by decide +kernel) rfl rfl ?_
      refine ms_getr (idx := 19) (ci := 8) (k := 1) (q := 519) (p' := 40) (by decide +kernel) rfl (k_2 hw) (r_2_1 hw) (pn_0 (pl_pn sw)) ?_
      refine ms_iload_n (k := 1) (p' := 41) (by decide +kernel) rfl rfl ?_
      refine ms_bipush (n := 8) (v := 8) (p' := 43) (by decide +kernel) rfl ?_
      refine ms_aload_n (k := 0) (p' := 44) (by decide +kernel) rfl rfl ?_
      refine ms_getr (idx := 19) (ci := 8) (k := 1) (q := 519) (p' := 47) (by decide +kernel) rfl (k_2 hw) (r_2_1 hw) (pn_0 (pl_pn sw)) ?_
      refine ms_geti (idx := 362) (ci := 3) (k := 3) (q := 214) (p' := 50) (by decide +kernel) rfl (pn_k (pl_pn sw) hw) ?_
      refine ms_virt_i (idx := 364) (cy := yL_listsWith) (n := 3) (a := (pl sw)) (as := [.inl x1, .inl 8, .inl (f1 (pl sw) 3)]) (rest := []) (p' := 53) (by decide +kernel) rfl rfl rfl rfl (pn_k (pl_pn sw) hw) rfl (fun f3 v4 => ?_)
      exact ms_iret (by decide +kernel)
    · rw [if_neg hs0]
      by_cases hs1 : x2 = 1
      · rw [if_pos hs1]
        refine ms_tabIn (t := 54) hd (by omega) (by rw [hs1]; decide +kernel) ?_
        refine ms_aload_n (k := 0) (p' := 55) (by decide +kernel) rfl rfl ?_
        refine ms_getr (idx := 19) (ci := 8) (k := 1) (q := 519) (p' := 58) (by decide +kernel) rfl (k_2 hw) (r_2_1 hw) (pn_0 (pl_pn sw)) ?_
        refine ms_iload_n (k := 1) (p' := 59) (by decide +kernel) rfl rfl ?_
        refine ms_virt_i (idx := 368) (cy := yL_edgesThatSet) (n := 1) (a := (pl sw)) (as := [.inl x1]) (rest := []) (p' := 62) (by decide +kernel) rfl rfl rfl rfl (pn_k (pl_pn sw) hw) rfl (fun f5 v6 => ?_)
        exact ms_iret (by decide +kernel)
      · rw [if_neg hs1]
        by_cases hs2 : x2 = 2
        · rw [if_pos hs2]
          refine ms_tabIn (t := 63) hd (by omega) (by rw [hs2]; decide +kernel) ?_
          refine ms_aload_n (k := 0) (p' := 64) (by decide +kernel) rfl rfl ?_
          refine ms_getr (idx := 19) (ci := 8) (k := 1) (q := 519) (p' := 67) (by decide +kernel) rfl (k_2 hw) (r_2_1 hw) (pn_0 (pl_pn sw)) ?_
          refine ms_iload_n (k := 1) (p' := 68) (by decide +kernel) rfl rfl ?_
          refine ms_iconst (n := 0) (v := 0) (p' := 69) (by decide +kernel) rfl ?_
          refine ms_aload_n (k := 0) (p' := 70) (by decide +kernel) rfl rfl ?_
          refine ms_getr (idx := 19) (ci := 8) (k := 1) (q := 519) (p' := 73) (by decide +kernel) rfl (k_2 hw) (r_2_1 hw) (pn_0 (pl_pn sw)) ?_
          refine ms_geti (idx := 350) (ci := 3) (k := 2) (q := 210) (p' := 76) (by decide +kernel) rfl (pn_k (pl_pn sw) hw) ?_
          refine ms_virt_i (idx := 364) (cy := yL_listsWith) (n := 3) (a := (pl sw)) (as := [.inl x1, .inl 0, .inl (f1 (pl sw) 2)]) (rest := []) (p' := 79) (by decide +kernel) rfl rfl rfl rfl (pn_k (pl_pn sw) hw) rfl (fun f7 v8 => ?_)
          exact ms_iret (by decide +kernel)
        · rw [if_neg hs2]
          refine ms_tabOut (t := 80) hd (by omega) (by decide +kernel) ?_
          refine ms_iconst (n := (-1)) (v := (-1)) (p' := 81) (by decide +kernel) rfl ?_
          exact ms_iret (by decide +kernel)
  · refine ms_iconst (n := (-1)) (v := (-1)) (p' := 9) (by decide +kernel) rfl ?_
    exact ms_iret (by decide +kernel)
theorem c_X_single {sw : Bool} {w : mj_W} (hw : wk sw w) (f : mj_F) (x1 : Int)  : mj_call yX_single w f [.inr (.inl 2), .inl x1] = mj_bi (mj_call yX_isTable w f [.inl x1]) (fun f1 v2 => if ¬ v2 = 0 then mj_gd (0 ≤ x1 ∧ x1 < ((4 : Nat) : Int)) (if (f1 (215 + 2 * x1.toNat) 2) = 0 then mj_run yX_single w f1 31 [.inr (.inl 2), .inl x1, .inr (.inl (215 + 2 * x1.toNat)), .inl 0, .inl 1] [] else some (w, f1, some (.inl (-2)))) else some (w, f1, some (.inl (-1)))) := by
  show mj_run yX_single w f 0 [.inr (.inl 2), .inl x1, .inr (.inr (.inr 0)), .inr (.inr (.inr 0)), .inr (.inr (.inr 0))] [] = _
  refine ms_iload_n (k := 1) (p' := 1) (by decide +kernel) rfl rfl ?_
  refine ms_stat_i (idx := 182) (cy := yX_isTable) (n := 1) (as := [.inl x1]) (rest := []) (p' := 4) (by decide +kernel) rfl rfl rfl rfl rfl (fun f1 v2 => ?_)
  refine ms_if_ne (off := 5) (t := 9) (p' := 7) (by decide +kernel) rfl (fun hc => ?_) (fun hc => ?_)
  · refine ms_aload_n (k := 0) (p' := 10) (by decide +kernel) rfl rfl ?_
    refine ms_getr (idx := 25) (ci := 8) (k := 2) (q := 520) (p' := 13) (by decide +kernel) rfl (k_2 hw) (r_2_2 hw) (by decide) ?_
    refine ms_iload_n (k := 1) (p' := 14) (by decide +kernel) rfl rfl ?_
    refine ms_aald (p' := 15) (by decide +kernel) rfl (k_31 hw) (rz31 hw) (fun hj3 => ?_)
    refine ms_astore_n (k := 2) (ls' := [.inr (.inl 2), .inl x1, .inr (.inl (215 + 2 * x1.toNat)), .inr (.inr (.inr 0)), .inr (.inr (.inr 0))]) (p' := 16) (by decide +kernel) rfl (Nat.le_of_ble_eq_true rfl) rfl ?_
    refine ms_aload_n (k := 2) (p' := 17) (by decide +kernel) rfl rfl ?_
    refine ms_geti (idx := 273) (ci := 7) (k := 2) (q := 365) (p' := 20) (by decide +kernel) rfl (zn_k (zz31 hj3) hw) ?_
    refine ms_if_eq (off := 6) (t := 26) (p' := 23) (by decide +kernel) rfl (fun hc => ?_) (fun hc => ?_)
    · refine ms_iconst (n := 0) (v := 0) (p' := 27) (by decide +kernel) rfl ?_
      refine ms_istore_n (k := 3) (ls' := [.inr (.inl 2), .inl x1, .inr (.inl (215 + 2 * x1.toNat)), .inl 0, .inr (.inr (.inr 0))]) (p' := 28) (by decide +kernel) rfl (Nat.le_of_ble_eq_true rfl) rfl ?_
      refine ms_iconst (n := 1) (v := 1) (p' := 29) (by decide +kernel) rfl ?_
      refine ms_istore (k := 4) (ls' := [.inr (.inl 2), .inl x1, .inr (.inl (215 + 2 * x1.toNat)), .inl 0, .inl 1]) (p' := 31) (by decide +kernel) rfl (Nat.le_of_ble_eq_true rfl) rfl ?_
      rfl
    · refine ms_bipush (n := (-2)) (v := (-2)) (p' := 25) (by decide +kernel) rfl ?_
      exact ms_iret (by decide +kernel)
  · refine ms_iconst (n := (-1)) (v := (-1)) (p' := 8) (by decide +kernel) rfl ?_
    exact ms_iret (by decide +kernel)
theorem l_X_single_31 {sw : Bool} {w : mj_W} (hw : wk sw w) (f : mj_F) (x1 : Int) (z2_ : Nat) (x3 : Int) (x4 : Int) (hz2_ : zn z2_ = true) : mj_run yX_single w f 31 [.inr (.inl 2), .inl x1, .inr (.inl z2_), .inl x3, .inl x4] [] = if (f z2_ 1) ≤ x4 then some (w, f, some (.inl x3)) else mj_bi (mj_call yZ_cell w f [.inr (.inl z2_), .inl x4, .inl 0]) (fun f4 v5 => mj_bi (mj_call yZ_cell w f4 [.inr (.inl z2_), .inl 0, .inl x4]) (fun f6 v7 => mj_bi (mj_call yX_sumOf w f6 [.inl v5, .inl v7]) (fun f8 v9 => if ¬ v9 = 1 then mj_run yX_single w f8 31 [.inr (.inl 2), .inl x1, .inr (.inl z2_), .inl x3, .inl (mj_w (x4 + 1))] [] else mj_run yX_single w f8 31 [.inr (.inl 2), .inl x1, .inr (.inl z2_), .inl (mj_or x3 (mj_shl 1 (mj_w (x4 - 1)))), .inl (mj_w (x4 + 1))] []))) := by
  refine ms_iload (k := 4) (p' := 33) (by decide +kernel) rfl rfl ?_
  refine ms_aload_n (k := 2) (p' := 34) (by decide +kernel) rfl rfl ?_
  refine ms_geti (idx := 284) (ci := 7) (k := 1) (q := 361) (p' := 37) (by decide +kernel) rfl (zn_k hz2_ hw) ?_
  refine ms_icmp_ge (off := 39) (t := 76) (p' := 40) (by decide +kernel) rfl (fun hc => ?_) (fun hc => ?_)
  · refine ms_iload_n (k := 3) (p' := 77) (by decide +kernel) rfl rfl ?_
    exact ms_iret (by decide +kernel)
  · refine ms_aload_n (k := 2) (p' := 41) (by decide +kernel) rfl rfl ?_
    refine ms_iload (k := 4) (p' := 43) (by decide +kernel) rfl rfl ?_
    refine ms_iconst (n := 0) (v := 0) (p' := 44) (by decide +kernel) rfl ?_
    refine ms_virt_i (idx := 308) (cy := yZ_cell) (n := 2) (a := z2_) (as := [.inl x4, .inl 0]) (rest := []) (p' := 47) (by decide +kernel) rfl rfl rfl rfl (zn_k hz2_ hw) rfl (fun f4 v5 => ?_)
    refine ms_aload_n (k := 2) (p' := 48) (by decide +kernel) rfl rfl ?_
    refine ms_iconst (n := 0) (v := 0) (p' := 49) (by decide +kernel) rfl ?_
    refine ms_iload (k := 4) (p' := 51) (by decide +kernel) rfl rfl ?_
    refine ms_virt_i (idx := 308) (cy := yZ_cell) (n := 2) (a := z2_) (as := [.inl 0, .inl x4]) (rest := [.inl v5]) (p' := 54) (by decide +kernel) rfl rfl rfl rfl (zn_k hz2_ hw) rfl (fun f6 v7 => ?_)
    refine ms_stat_i (idx := 312) (cy := yX_sumOf) (n := 2) (as := [.inl v5, .inl v7]) (rest := []) (p' := 57) (by decide +kernel) rfl rfl rfl rfl rfl (fun f8 v9 => ?_)
    refine ms_iconst (n := 1) (v := 1) (p' := 58) (by decide +kernel) rfl ?_
    refine ms_icmp_ne (off := 12) (t := 70) (p' := 61) (by decide +kernel) rfl (fun hc => ?_) (fun hc => ?_)
    · refine ms_iinc (k := 4) (n := 1) (ls' := [.inr (.inl 2), .inl x1, .inr (.inl z2_), .inl x3, .inl (mj_w (x4 + 1))]) (p' := 73) (by decide +kernel) rfl rfl rfl ?_
      refine ms_goto (off := (-42)) (p' := 31) (by decide +kernel) ?_
      rfl
    · refine ms_iload_n (k := 3) (p' := 62) (by decide +kernel) rfl rfl ?_
      refine ms_iconst (n := 1) (v := 1) (p' := 63) (by decide +kernel) rfl ?_
      refine ms_iload (k := 4) (p' := 65) (by decide +kernel) rfl rfl ?_
      refine ms_iconst (n := 1) (v := 1) (p' := 66) (by decide +kernel) rfl ?_
      refine ms_isub (p' := 67) (by decide +kernel) rfl ?_
      refine ms_ishl (p' := 68) (by decide +kernel) rfl ?_
      refine ms_ior (p' := 69) (by decide +kernel) rfl ?_
      refine ms_istore_n (k := 3) (ls' := [.inr (.inl 2), .inl x1, .inr (.inl z2_), .inl (mj_or x3 (mj_shl 1 (mj_w (x4 - 1)))), .inl x4]) (p' := 70) (by decide +kernel) rfl (Nat.le_of_ble_eq_true rfl) rfl ?_
      refine ms_iinc (k := 4) (n := 1) (ls' := [.inr (.inl 2), .inl x1, .inr (.inl z2_), .inl (mj_or x3 (mj_shl 1 (mj_w (x4 - 1)))), .inl (mj_w (x4 + 1))]) (p' := 73) (by decide +kernel) rfl rfl rfl ?_
      refine ms_goto (off := (-42)) (p' := 31) (by decide +kernel) ?_
      rfl
theorem c_X_count {sw : Bool} {w : mj_W} (hw : wk sw w) (f : mj_F) (x1 : Int)  : mj_call yX_count w f [.inr (.inl 2), .inl x1] = if x1 = 0 then some (w, f, some (.inl (f (pl sw) 0))) else if x1 = 1 then some (w, f, some (.inl (f (pl sw) 1))) else if x1 = 2 then some (w, f, some (.inl (f (pl sw) 2))) else if x1 = 3 then some (w, f, some (.inl (f (pl sw) 3))) else if x1 = 4 then if ¬ (f (pl sw) 2) = 0 then some (w, f, some (.inl (f (pl sw) 4))) else some (w, f, some (.inl (-1))) else if x1 = 5 then some (w, f, some (.inl (f 168 1))) else if x1 = 6 then some (w, f, some (.inl (f 178 5))) else if x1 = 7 then some (w, f, some (.inl (f 3 1))) else some (w, f, some (.inl (-1))) := by
  show mj_run yX_count w f 0 [.inr (.inl 2), .inl x1] [] = _
  refine ms_iload_n (k := 1) (p' := 1) (by decide +kernel) rfl rfl ?_
  have hd : mj_dec yX_count 1 = some (.tableswitch 125 0 7 #[47, 55, 63, 71, 79, 101, 109, 117]) := by decide +kernel
  by_cases hs0 : x1 = 0
  · rw [if_pos hs0]
    refine ms_tabIn (t := 48) hd (by omega) (by rw [hs0]; decide +kernel) ?_
    refine ms_aload_n (k := 0) (p' := 49) (by decide +kernel) rfl rfl ?_
    refine ms_getr (idx := 19) (ci := 8) (k := 1) (q := 519) (p' := 52) (by decide +kernel) rfl (k_2 hw) (r_2_1 hw) (pn_0 (pl_pn sw)) ?_
    refine ms_geti (idx := 98) (ci := 3) (k := 0) (q := 202) (p' := 55) (by decide +kernel) rfl (pn_k (pl_pn sw) hw) ?_
    exact ms_iret (by decide +kernel)
  · rw [if_neg hs0]
    by_cases hs1 : x1 = 1
    · rw [if_pos hs1]
      refine ms_tabIn (t := 56) hd (by omega) (by rw [hs1]; decide +kernel) ?_
      refine ms_aload_n (k := 0) (p' := 57) (by decide +kernel) rfl rfl ?_
      refine ms_getr (idx := 19) (ci := 8) (k := 1) (q := 519) (p' := 60) (by decide +kernel) rfl (k_2 hw) (r_2_1 hw) (pn_0 (pl_pn sw)) ?_
      refine ms_geti (idx := 185) (ci := 3) (k := 1) (q := 207) (p' := 63) (by decide +kernel) rfl (pn_k (pl_pn sw) hw) ?_
      exact ms_iret (by decide +kernel)
    · rw [if_neg hs1]
      by_cases hs2 : x1 = 2
      · rw [if_pos hs2]
        refine ms_tabIn (t := 64) hd (by omega) (by rw [hs2]; decide +kernel) ?_
        refine ms_aload_n (k := 0) (p' := 65) (by decide +kernel) rfl rfl ?_
        refine ms_getr (idx := 19) (ci := 8) (k := 1) (q := 519) (p' := 68) (by decide +kernel) rfl (k_2 hw) (r_2_1 hw) (pn_0 (pl_pn sw)) ?_
        refine ms_geti (idx := 350) (ci := 3) (k := 2) (q := 210) (p' := 71) (by decide +kernel) rfl (pn_k (pl_pn sw) hw) ?_
        exact ms_iret (by decide +kernel)
      · rw [if_neg hs2]
        by_cases hs3 : x1 = 3
        · rw [if_pos hs3]
          refine ms_tabIn (t := 72) hd (by omega) (by rw [hs3]; decide +kernel) ?_
          refine ms_aload_n (k := 0) (p' := 73) (by decide +kernel) rfl rfl ?_
          refine ms_getr (idx := 19) (ci := 8) (k := 1) (q := 519) (p' := 76) (by decide +kernel) rfl (k_2 hw) (r_2_1 hw) (pn_0 (pl_pn sw)) ?_
          refine ms_geti (idx := 362) (ci := 3) (k := 3) (q := 214) (p' := 79) (by decide +kernel) rfl (pn_k (pl_pn sw) hw) ?_
          exact ms_iret (by decide +kernel)
        · rw [if_neg hs3]
          by_cases hs4 : x1 = 4
          · rw [if_pos hs4]
            refine ms_tabIn (t := 80) hd (by omega) (by rw [hs4]; decide +kernel) ?_
            refine ms_aload_n (k := 0) (p' := 81) (by decide +kernel) rfl rfl ?_
            refine ms_getr (idx := 19) (ci := 8) (k := 1) (q := 519) (p' := 84) (by decide +kernel) rfl (k_2 hw) (r_2_1 hw) (pn_0 (pl_pn sw)) ?_
            refine ms_geti (idx := 350) (ci := 3) (k := 2) (q := 210) (p' := 87) (by decide +kernel) rfl (pn_k (pl_pn sw) hw) ?_
            refine ms_if_ne (off := 7) (t := 94) (p' := 90) (by decide +kernel) rfl (fun hc => ?_) (fun hc => ?_)
            · refine ms_aload_n (k := 0) (p' := 95) (by decide +kernel) rfl rfl ?_
              refine ms_getr (idx := 19) (ci := 8) (k := 1) (q := 519) (p' := 98) (by decide +kernel) rfl (k_2 hw) (r_2_1 hw) (pn_0 (pl_pn sw)) ?_
              refine ms_geti (idx := 418) (ci := 3) (k := 4) (q := 221) (p' := 101) (by decide +kernel) rfl (pn_k (pl_pn sw) hw) ?_
              exact ms_iret (by decide +kernel)
            · refine ms_iconst (n := (-1)) (v := (-1)) (p' := 91) (by decide +kernel) rfl ?_
              refine ms_goto (off := 10) (p' := 101) (by decide +kernel) ?_
              exact ms_iret (by decide +kernel)
          · rw [if_neg hs4]
            by_cases hs5 : x1 = 5
            · rw [if_pos hs5]
              refine ms_tabIn (t := 102) hd (by omega) (by rw [hs5]; decide +kernel) ?_
              refine ms_aload_n (k := 0) (p' := 103) (by decide +kernel) rfl rfl ?_
              refine ms_getr (idx := 51) (ci := 8) (k := 7) (q := 525) (p' := 106) (by decide +kernel) rfl (k_2 hw) (r_2_7 hw) (by decide) ?_
              refine ms_geti (idx := 375) (ci := 2) (k := 1) (q := 434) (p' := 109) (by decide +kernel) rfl (k_168 hw) ?_
              exact ms_iret (by decide +kernel)
            · rw [if_neg hs5]
              by_cases hs6 : x1 = 6
              · rw [if_pos hs6]
                refine ms_tabIn (t := 110) hd (by omega) (by rw [hs6]; decide +kernel) ?_
                refine ms_aload_n (k := 0) (p' := 111) (by decide +kernel) rfl rfl ?_
                refine ms_getr (idx := 72) (ci := 8) (k := 10) (q := 528) (p' := 114) (by decide +kernel) rfl (k_2 hw) (r_2_10 hw) (by decide) ?_
                refine ms_geti (idx := 250) (ci := 1) (k := 5) (q := 504) (p' := 117) (by decide +kernel) rfl (k_178 hw) ?_
                exact ms_iret (by decide +kernel)
              · rw [if_neg hs6]
                by_cases hs7 : x1 = 7
                · rw [if_pos hs7]
                  refine ms_tabIn (t := 118) hd (by omega) (by rw [hs7]; decide +kernel) ?_
                  refine ms_aload_n (k := 0) (p' := 119) (by decide +kernel) rfl rfl ?_
                  refine ms_getr (idx := 12) (ci := 8) (k := 0) (q := 518) (p' := 122) (by decide +kernel) rfl (k_2 hw) (r_2_0 hw) (by decide) ?_
                  refine ms_geti (idx := 76) (ci := 4) (k := 1) (q := 314) (p' := 125) (by decide +kernel) rfl (k_3 hw) ?_
                  exact ms_iret (by decide +kernel)
                · rw [if_neg hs7]
                  refine ms_tabOut (t := 126) hd (by omega) (by decide +kernel) ?_
                  refine ms_iconst (n := (-1)) (v := (-1)) (p' := 127) (by decide +kernel) rfl ?_
                  exact ms_iret (by decide +kernel)
