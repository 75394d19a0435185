/-! What each method does from its entry (c_), and from the heads of its loops (l_). Written by wip/whole/gen/mkall.py out of the bytes. -/
theorem c_M_put {sw : Bool} {w : mj_W} (hw : wk sw w) (f : mj_F) (x1 : Int) (x2 : Int) (x3 : Int)  : mj_call yM_put w f [.inr (.inl 223), .inl x1, .inl x2, .inl x3] = mj_gd (0 ≤ (mj_w ((mj_w (62 * x1)) + x2)) ∧ (mj_w ((mj_w (62 * x1)) + x2)) < ((3844 : Nat) : Int)) (some (w, (mj_u f 252 (mj_w ((mj_w (62 * x1)) + x2)).toNat x3), none)) := by
  show mj_run yM_put w f 0 [.inr (.inl 223), .inl x1, .inl x2, .inl x3] [] = _
  refine ms_aload_n (k := 0) (p' := 1) (by decide +kernel) rfl rfl ?_
  refine ms_getr (idx := 102) (ci := 9) (k := 51) (q := 1442) (p' := 4) (by decide +kernel) rfl (k_223 hw) (r_223_51 hw) (by decide) ?_
  refine ms_bipush (n := 62) (v := 62) (p' := 6) (by decide +kernel) rfl ?_
  refine ms_iload_n (k := 1) (p' := 7) (by decide +kernel) rfl rfl ?_
  refine ms_imul (p' := 8) (by decide +kernel) rfl ?_
  refine ms_iload_n (k := 2) (p' := 9) (by decide +kernel) rfl rfl ?_
  refine ms_iadd (p' := 10) (by decide +kernel) rfl ?_
  refine ms_iload_n (k := 3) (p' := 11) (by decide +kernel) rfl rfl ?_
  refine ms_iast (p' := 12) (by decide +kernel) rfl (k_252 hw) (fun hj1 => ?_)
  exact ms_vret (by decide +kernel)
theorem c_M_nought {sw : Bool} {w : mj_W} (hw : wk sw w) (f : mj_F)   : mj_call yM_nought w f [.inr (.inl 223)] = mj_run yM_nought w (mj_u (mj_u f 223 52 (mj_w ((f 223 2) + 1))) 223 53 0) 17 [.inr (.inl 223), .inl 0, .inr (.inr (.inr 0))] [] := by
  show mj_run yM_nought w f 0 [.inr (.inl 223), .inr (.inr (.inr 0)), .inr (.inr (.inr 0))] [] = _
  refine ms_aload_n (k := 0) (p' := 1) (by decide +kernel) rfl rfl ?_
  refine ms_aload_n (k := 0) (p' := 2) (by decide +kernel) rfl rfl ?_
  refine ms_geti (idx := 242) (ci := 9) (k := 2) (q := 1393) (p' := 5) (by decide +kernel) rfl (k_223 hw) ?_
  refine ms_iconst (n := 1) (v := 1) (p' := 6) (by decide +kernel) rfl ?_
  refine ms_iadd (p' := 7) (by decide +kernel) rfl ?_
  refine ms_puti (idx := 280) (ci := 9) (k := 52) (q := 1443) (p' := 10) (by decide +kernel) rfl (k_223 hw) ?_
  refine ms_aload_n (k := 0) (p' := 11) (by decide +kernel) rfl rfl ?_
  refine ms_iconst (n := 0) (v := 0) (p' := 12) (by decide +kernel) rfl ?_
  refine Eq.trans (ms_putz (idx := 289) (ci := 9) (k := 53) (q := 1444) (p' := 15) (by decide +kernel) rfl (k_223 hw) (fun _ => ?_)) (mj_gd_pos (by decide) _)
  refine ms_iconst (n := 0) (v := 0) (p' := 16) (by decide +kernel) rfl ?_
  refine ms_istore_n (k := 1) (ls' := [.inr (.inl 223), .inl 0, .inr (.inr (.inr 0))]) (p' := 17) (by decide +kernel) rfl (Nat.le_of_ble_eq_true rfl) rfl ?_
  rfl
theorem l_M_nought_17 {sw : Bool} {w : mj_W} (hw : wk sw w) (f : mj_F) (x1 : Int) (u2 : mj_V)  : mj_run yM_nought w f 17 [.inr (.inl 223), .inl x1, u2] [] = if (f 223 52) ≤ x1 then some (w, f, none) else mj_run yM_nought w f 27 [.inr (.inl 223), .inl x1, .inl 0] [] := by
  refine ms_iload_n (k := 1) (p' := 18) (by decide +kernel) rfl rfl ?_
  refine ms_aload_n (k := 0) (p' := 19) (by decide +kernel) rfl rfl ?_
  refine ms_geti (idx := 280) (ci := 9) (k := 52) (q := 1443) (p' := 22) (by decide +kernel) rfl (k_223 hw) ?_
  refine ms_icmp_ge (off := 32) (t := 54) (p' := 25) (by decide +kernel) rfl (fun hc => ?_) (fun hc => ?_)
  · exact ms_vret (by decide +kernel)
  · refine ms_iconst (n := 0) (v := 0) (p' := 26) (by decide +kernel) rfl ?_
    refine ms_istore_n (k := 2) (ls' := [.inr (.inl 223), .inl x1, .inl 0]) (p' := 27) (by decide +kernel) rfl (Nat.le_of_ble_eq_true rfl) rfl ?_
    rfl
theorem l_M_nought_27 {sw : Bool} {w : mj_W} (hw : wk sw w) (f : mj_F) (x1 : Int) (x2 : Int)  : mj_run yM_nought w f 27 [.inr (.inl 223), .inl x1, .inl x2] [] = if (f 223 52) ≤ x2 then mj_run yM_nought w f 17 [.inr (.inl 223), .inl (mj_w (x1 + 1)), .inl x2] [] else mj_bu (mj_call yM_put w f [.inr (.inl 223), .inl x1, .inl x2, .inl 1]) (fun f1 => mj_run yM_nought w f1 27 [.inr (.inl 223), .inl x1, .inl (mj_w (x2 + 1))] []) := by
  refine ms_iload_n (k := 2) (p' := 28) (by decide +kernel) rfl rfl ?_
  refine ms_aload_n (k := 0) (p' := 29) (by decide +kernel) rfl rfl ?_
  refine ms_geti (idx := 280) (ci := 9) (k := 52) (q := 1443) (p' := 32) (by decide +kernel) rfl (k_223 hw) ?_
  refine ms_icmp_ge (off := 16) (t := 48) (p' := 35) (by decide +kernel) rfl (fun hc => ?_) (fun hc => ?_)
  · refine ms_iinc (k := 1) (n := 1) (ls' := [.inr (.inl 223), .inl (mj_w (x1 + 1)), .inl x2]) (p' := 51) (by decide +kernel) rfl rfl rfl ?_
    refine ms_goto (off := (-34)) (p' := 17) (by decide +kernel) ?_
    rfl
  · refine ms_aload_n (k := 0) (p' := 36) (by decide +kernel) rfl rfl ?_
    refine ms_iload_n (k := 1) (p' := 37) (by decide +kernel) rfl rfl ?_
    refine ms_iload_n (k := 2) (p' := 38) (by decide +kernel) rfl rfl ?_
    refine ms_iconst (n := 1) (v := 1) (p' := 39) (by decide +kernel) rfl ?_
    refine ms_virt_u (idx := 276) (cy := yM_put) (n := 3) (a := 223) (as := [.inl x1, .inl x2, .inl 1]) (rest := []) (p' := 42) (by decide +kernel) rfl rfl rfl rfl (k_223 hw) rfl (fun f1 => ?_)
    refine ms_iinc (k := 2) (n := 1) (ls' := [.inr (.inl 223), .inl x1, .inl (mj_w (x2 + 1))]) (p' := 45) (by decide +kernel) rfl rfl rfl ?_
    refine ms_goto (off := (-18)) (p' := 27) (by decide +kernel) ?_
    rfl
theorem c_M_get {sw : Bool} {w : mj_W} (hw : wk sw w) (f : mj_F) (x1 : Int) (x2 : Int)  : mj_call yM_get w f [.inr (.inl 223), .inl x1, .inl x2] = mj_gd (0 ≤ (mj_w ((mj_w (62 * x1)) + x2)) ∧ (mj_w ((mj_w (62 * x1)) + x2)) < ((3844 : Nat) : Int)) (some (w, f, some (.inl (f 252 (mj_w ((mj_w (62 * x1)) + x2)).toNat)))) := by
  show mj_run yM_get w f 0 [.inr (.inl 223), .inl x1, .inl x2] [] = _
  refine ms_aload_n (k := 0) (p' := 1) (by decide +kernel) rfl rfl ?_
  refine ms_getr (idx := 102) (ci := 9) (k := 51) (q := 1442) (p' := 4) (by decide +kernel) rfl (k_223 hw) (r_223_51 hw) (by decide) ?_
  refine ms_bipush (n := 62) (v := 62) (p' := 6) (by decide +kernel) rfl ?_
  refine ms_iload_n (k := 1) (p' := 7) (by decide +kernel) rfl rfl ?_
  refine ms_imul (p' := 8) (by decide +kernel) rfl ?_
  refine ms_iload_n (k := 2) (p' := 9) (by decide +kernel) rfl rfl ?_
  refine ms_iadd (p' := 10) (by decide +kernel) rfl ?_
  refine ms_iald (p' := 11) (by decide +kernel) rfl (k_252 hw) (fun hj1 => ?_)
  exact ms_iret (by decide +kernel)
theorem c_M_stores {sw : Bool} {w : mj_W} (hw : wk sw w) (f : mj_F) (x1 : Int)  : mj_call yM_stores w f [.inr (.inl 223), .inl x1] = mj_run yM_stores w f 2 [.inr (.inl 223), .inl x1, .inl 0, .inr (.inr (.inr 0))] [] := by
  show mj_run yM_stores w f 0 [.inr (.inl 223), .inl x1, .inr (.inr (.inr 0)), .inr (.inr (.inr 0))] [] = _
  refine ms_iconst (n := 0) (v := 0) (p' := 1) (by decide +kernel) rfl ?_
  refine ms_istore_n (k := 2) (ls' := [.inr (.inl 223), .inl x1, .inl 0, .inr (.inr (.inr 0))]) (p' := 2) (by decide +kernel) rfl (Nat.le_of_ble_eq_true rfl) rfl ?_
  rfl
theorem l_M_stores_2 {sw : Bool} {w : mj_W} (hw : wk sw w) (f : mj_F) (x1 : Int) (x2 : Int) (u3 : mj_V)  : mj_run yM_stores w f 2 [.inr (.inl 223), .inl x1, .inl x2, u3] [] = if (f 223 52) ≤ x2 then if (f 223 53) = 0 then mj_gd (0 ≤ (mj_w (100 + x1)) ∧ (mj_w (100 + x1)) < ((125 : Nat) : Int)) (some (w, (mj_u f 234 (mj_w (100 + x1)).toNat 0), none)) else mj_gd (0 ≤ (mj_w (100 + x1)) ∧ (mj_w (100 + x1)) < ((125 : Nat) : Int)) (some (w, (mj_u f 234 (mj_w (100 + x1)).toNat 1), none)) else mj_run yM_stores w f 12 [.inr (.inl 223), .inl x1, .inl x2, .inl 0] [] := by
  refine ms_iload_n (k := 2) (p' := 3) (by decide +kernel) rfl rfl ?_
  refine ms_aload_n (k := 0) (p' := 4) (by decide +kernel) rfl rfl ?_
  refine ms_geti (idx := 280) (ci := 9) (k := 52) (q := 1443) (p' := 7) (by decide +kernel) rfl (k_223 hw) ?_
  refine ms_icmp_ge (off := 46) (t := 53) (p' := 10) (by decide +kernel) rfl (fun hc => ?_) (fun hc => ?_)
  · refine ms_aload_n (k := 0) (p' := 54) (by decide +kernel) rfl rfl ?_
    refine ms_getr (idx := 44) (ci := 9) (k := 16) (q := 1407) (p' := 57) (by decide +kernel) rfl (k_223 hw) (r_223_16 hw) (by decide) ?_
    refine ms_bipush (n := 100) (v := 100) (p' := 59) (by decide +kernel) rfl ?_
    refine ms_iload_n (k := 1) (p' := 60) (by decide +kernel) rfl rfl ?_
    refine ms_iadd (p' := 61) (by decide +kernel) rfl ?_
    refine ms_aload_n (k := 0) (p' := 62) (by decide +kernel) rfl rfl ?_
    refine ms_geti (idx := 289) (ci := 9) (k := 53) (q := 1444) (p' := 65) (by decide +kernel) rfl (k_223 hw) ?_
    refine ms_if_eq (off := 7) (t := 72) (p' := 68) (by decide +kernel) rfl (fun hc => ?_) (fun hc => ?_)
    · refine ms_iconst (n := 0) (v := 0) (p' := 73) (by decide +kernel) rfl ?_
      refine ms_iast (p' := 74) (by decide +kernel) rfl (k_234 hw) (fun hj1 => ?_)
      exact ms_vret (by decide +kernel)
    · refine ms_iconst (n := 1) (v := 1) (p' := 69) (by decide +kernel) rfl ?_
      refine ms_goto (off := 4) (p' := 73) (by decide +kernel) ?_
      refine ms_iast (p' := 74) (by decide +kernel) rfl (k_234 hw) (fun hj2 => ?_)
      exact ms_vret (by decide +kernel)
  · refine ms_iconst (n := 0) (v := 0) (p' := 11) (by decide +kernel) rfl ?_
    refine ms_istore_n (k := 3) (ls' := [.inr (.inl 223), .inl x1, .inl x2, .inl 0]) (p' := 12) (by decide +kernel) rfl (Nat.le_of_ble_eq_true rfl) rfl ?_
    rfl
theorem l_M_stores_12 {sw : Bool} {w : mj_W} (hw : wk sw w) (f : mj_F) (x1 : Int) (x2 : Int) (x3 : Int)  : mj_run yM_stores w f 12 [.inr (.inl 223), .inl x1, .inl x2, .inl x3] [] = if (f 223 52) ≤ x3 then mj_run yM_stores w f 2 [.inr (.inl 223), .inl x1, .inl (mj_w (x2 + 1)), .inl x3] [] else mj_bi (mj_call yM_get w f [.inr (.inl 223), .inl x2, .inl x3]) (fun f3 v4 => mj_gd (0 ≤ (mj_w ((mj_w ((mj_w (25 * x1)) + (mj_w (5 * x2)))) + x3)) ∧ (mj_w ((mj_w ((mj_w (25 * x1)) + (mj_w (5 * x2)))) + x3)) < ((125 : Nat) : Int)) (mj_run yM_stores w (mj_u f3 234 (mj_w ((mj_w ((mj_w (25 * x1)) + (mj_w (5 * x2)))) + x3)).toNat v4) 12 [.inr (.inl 223), .inl x1, .inl x2, .inl (mj_w (x3 + 1))] [])) := by
  refine ms_iload_n (k := 3) (p' := 13) (by decide +kernel) rfl rfl ?_
  refine ms_aload_n (k := 0) (p' := 14) (by decide +kernel) rfl rfl ?_
  refine ms_geti (idx := 280) (ci := 9) (k := 52) (q := 1443) (p' := 17) (by decide +kernel) rfl (k_223 hw) ?_
  refine ms_icmp_ge (off := 30) (t := 47) (p' := 20) (by decide +kernel) rfl (fun hc => ?_) (fun hc => ?_)
  · refine ms_iinc (k := 2) (n := 1) (ls' := [.inr (.inl 223), .inl x1, .inl (mj_w (x2 + 1)), .inl x3]) (p' := 50) (by decide +kernel) rfl rfl rfl ?_
    refine ms_goto (off := (-48)) (p' := 2) (by decide +kernel) ?_
    rfl
  · refine ms_aload_n (k := 0) (p' := 21) (by decide +kernel) rfl rfl ?_
    refine ms_getr (idx := 44) (ci := 9) (k := 16) (q := 1407) (p' := 24) (by decide +kernel) rfl (k_223 hw) (r_223_16 hw) (by decide) ?_
    refine ms_bipush (n := 25) (v := 25) (p' := 26) (by decide +kernel) rfl ?_
    refine ms_iload_n (k := 1) (p' := 27) (by decide +kernel) rfl rfl ?_
    refine ms_imul (p' := 28) (by decide +kernel) rfl ?_
    refine ms_iconst (n := 5) (v := 5) (p' := 29) (by decide +kernel) rfl ?_
    refine ms_iload_n (k := 2) (p' := 30) (by decide +kernel) rfl rfl ?_
    refine ms_imul (p' := 31) (by decide +kernel) rfl ?_
    refine ms_iadd (p' := 32) (by decide +kernel) rfl ?_
    refine ms_iload_n (k := 3) (p' := 33) (by decide +kernel) rfl rfl ?_
    refine ms_iadd (p' := 34) (by decide +kernel) rfl ?_
    refine ms_aload_n (k := 0) (p' := 35) (by decide +kernel) rfl rfl ?_
    refine ms_iload_n (k := 2) (p' := 36) (by decide +kernel) rfl rfl ?_
    refine ms_iload_n (k := 3) (p' := 37) (by decide +kernel) rfl rfl ?_
    refine ms_virt_i (idx := 272) (cy := yM_get) (n := 2) (a := 223) (as := [.inl x2, .inl x3]) (rest := [.inl (mj_w ((mj_w ((mj_w (25 * x1)) + (mj_w (5 * x2)))) + x3)), .inr (.inl 234)]) (p' := 40) (by decide +kernel) rfl rfl rfl rfl (k_223 hw) rfl (fun f3 v4 => ?_)
    refine ms_iast (p' := 41) (by decide +kernel) rfl (k_234 hw) (fun hj5 => ?_)
    refine ms_iinc (k := 3) (n := 1) (ls' := [.inr (.inl 223), .inl x1, .inl x2, .inl (mj_w (x3 + 1))]) (p' := 44) (by decide +kernel) rfl rfl rfl ?_
    refine ms_goto (off := (-32)) (p' := 12) (by decide +kernel) ?_
    rfl
theorem c_M_laysAll {sw : Bool} {w : mj_W} (hw : wk sw w) (f : mj_F)   : mj_call yM_laysAll w f [.inr (.inl 223)] = mj_run yM_laysAll w f 2 [.inr (.inl 223), .inl 0] [] := by
  show mj_run yM_laysAll w f 0 [.inr (.inl 223), .inr (.inr (.inr 0))] [] = _
  refine ms_iconst (n := 0) (v := 0) (p' := 1) (by decide +kernel) rfl ?_
  refine ms_istore_n (k := 1) (ls' := [.inr (.inl 223), .inl 0]) (p' := 2) (by decide +kernel) rfl (Nat.le_of_ble_eq_true rfl) rfl ?_
  rfl
theorem l_M_laysAll_2 {sw : Bool} {w : mj_W} (hw : wk sw w) (f : mj_F) (x1 : Int)  : mj_run yM_laysAll w f 2 [.inr (.inl 223), .inl x1] [] = if 4 ≤ x1 then some (w, f, none) else mj_bu (mj_call yM_nought w f [.inr (.inl 223)]) (fun f1 => mj_bu (mj_call yM_stores w f1 [.inr (.inl 223), .inl x1]) (fun f2 => mj_run yM_laysAll w f2 2 [.inr (.inl 223), .inl (mj_w (x1 + 1))] [])) := by
  refine ms_iload_n (k := 1) (p' := 3) (by decide +kernel) rfl rfl ?_
  refine ms_iconst (n := 4) (v := 4) (p' := 4) (by decide +kernel) rfl ?_
  refine ms_icmp_ge (off := 18) (t := 22) (p' := 7) (by decide +kernel) rfl (fun hc => ?_) (fun hc => ?_)
  · exact ms_vret (by decide +kernel)
  · refine ms_aload_n (k := 0) (p' := 8) (by decide +kernel) rfl rfl ?_
    refine ms_virt_u (idx := 126) (cy := yM_nought) (n := 0) (a := 223) (as := []) (rest := []) (p' := 11) (by decide +kernel) rfl rfl rfl rfl (k_223 hw) rfl (fun f1 => ?_)
    refine ms_aload_n (k := 0) (p' := 12) (by decide +kernel) rfl rfl ?_
    refine ms_iload_n (k := 1) (p' := 13) (by decide +kernel) rfl rfl ?_
    refine ms_virt_u (idx := 129) (cy := yM_stores) (n := 1) (a := 223) (as := [.inl x1]) (rest := []) (p' := 16) (by decide +kernel) rfl rfl rfl rfl (k_223 hw) rfl (fun f2 => ?_)
    refine ms_iinc (k := 1) (n := 1) (ls' := [.inr (.inl 223), .inl (mj_w (x1 + 1))]) (p' := 19) (by decide +kernel) rfl rfl rfl ?_
    refine ms_goto (off := (-17)) (p' := 2) (by decide +kernel) ?_
    rfl
theorem c_M_four {sw : Bool} {w : mj_W} (hw : wk sw w) (f : mj_F) (x1 : Int)  : mj_call yM_four w f [.inr (.inl 223), .inl x1] = mj_run yM_four w f 3 [.inr (.inl 223), .inl x1, .inl 24] [] := by
  show mj_run yM_four w f 0 [.inr (.inl 223), .inl x1, .inr (.inr (.inr 0))] [] = _
  refine ms_bipush (n := 24) (v := 24) (p' := 2) (by decide +kernel) rfl ?_
  refine ms_istore_n (k := 2) (ls' := [.inr (.inl 223), .inl x1, .inl 24]) (p' := 3) (by decide +kernel) rfl (Nat.le_of_ble_eq_true rfl) rfl ?_
  rfl
theorem l_M_four_3 {sw : Bool} {w : mj_W} (hw : wk sw w) (f : mj_F) (x1 : Int) (x2 : Int)  : mj_run yM_four w f 3 [.inr (.inl 223), .inl x1, .inl x2] [] = if x2 < 0 then some (w, f, none) else mj_gd (0 ≤ (f 223 25) ∧ (f 223 25) < ((900 : Nat) : Int)) (mj_run yM_four w (mj_u (mj_u f 240 (f 223 25).toNat (mj_w8 (mj_w8 (mj_shr x1 x2)))) 223 25 (mj_w ((mj_u f 240 (f 223 25).toNat (mj_w8 (mj_w8 (mj_shr x1 x2))) 223 25) + 1))) 3 [.inr (.inl 223), .inl x1, .inl (mj_w (x2 + (-8)))] []) := by
  refine ms_iload_n (k := 2) (p' := 4) (by decide +kernel) rfl rfl ?_
  refine ms_if_lt (off := 32) (t := 36) (p' := 7) (by decide +kernel) rfl (fun hc => ?_) (fun hc => ?_)
  · exact ms_vret (by decide +kernel)
  · refine ms_aload_n (k := 0) (p' := 8) (by decide +kernel) rfl rfl ?_
    refine ms_getr (idx := 62) (ci := 9) (k := 24) (q := 1415) (p' := 11) (by decide +kernel) rfl (k_223 hw) (r_223_24 hw) (by decide) ?_
    refine ms_aload_n (k := 0) (p' := 12) (by decide +kernel) rfl rfl ?_
    refine ms_geti (idx := 133) (ci := 9) (k := 25) (q := 1416) (p' := 15) (by decide +kernel) rfl (k_223 hw) ?_
    refine ms_iload_n (k := 1) (p' := 16) (by decide +kernel) rfl rfl ?_
    refine ms_iload_n (k := 2) (p' := 17) (by decide +kernel) rfl rfl ?_
    refine ms_ishr (p' := 18) (by decide +kernel) rfl ?_
    refine ms_i2b (p' := 19) (by decide +kernel) rfl ?_
    refine ms_bast (p' := 20) (by decide +kernel) rfl (k_240 hw) (fun hj1 => ?_)
    refine ms_aload_n (k := 0) (p' := 21) (by decide +kernel) rfl rfl ?_
    refine ms_dup_a (p' := 22) (by decide +kernel) rfl ?_
    refine ms_geti (idx := 133) (ci := 9) (k := 25) (q := 1416) (p' := 25) (by decide +kernel) rfl (k_223 hw) ?_
    refine ms_iconst (n := 1) (v := 1) (p' := 26) (by decide +kernel) rfl ?_
    refine ms_iadd (p' := 27) (by decide +kernel) rfl ?_
    refine ms_puti (idx := 133) (ci := 9) (k := 25) (q := 1416) (p' := 30) (by decide +kernel) rfl (k_223 hw) ?_
    refine ms_iinc (k := 2) (n := (-8)) (ls' := [.inr (.inl 223), .inl x1, .inl (mj_w (x2 + (-8)))]) (p' := 33) (by decide +kernel) rfl rfl rfl ?_
    refine ms_goto (off := (-30)) (p' := 3) (by decide +kernel) ?_
    rfl
theorem c_M_feed {sw : Bool} {w : mj_W} (hw : wk sw w) (f : mj_F) (x1 : Int) (x2 : Int) (x3 : Int) (x4 : Int) (x5 : Int)  : mj_call yM_feed w f [.inr (.inl 223), .inl x1, .inl x2, .inl x3, .inl x4, .inl x5] = if (mj_w ((mj_u f 223 0 0 223 25) + 20)) ≤ 900 then mj_bu (mj_call yM_four w (mj_u f 223 0 0) [.inr (.inl 223), .inl x1]) (fun f1 => mj_bu (mj_call yM_four w f1 [.inr (.inl 223), .inl x2]) (fun f2 => mj_bu (mj_call yM_four w f2 [.inr (.inl 223), .inl x3]) (fun f3 => mj_bu (mj_call yM_four w f3 [.inr (.inl 223), .inl x4]) (fun f4 => mj_bu (mj_call yM_four w f4 [.inr (.inl 223), .inl x5]) (fun f5 => some (w, f5, some (.inl (f5 223 25)))))))) else some (w, (mj_u f 223 0 0), some (.inl (-1))) := by
  show mj_run yM_feed w f 0 [.inr (.inl 223), .inl x1, .inl x2, .inl x3, .inl x4, .inl x5] [] = _
  refine ms_aload_n (k := 0) (p' := 1) (by decide +kernel) rfl rfl ?_
  refine ms_iconst (n := 0) (v := 0) (p' := 2) (by decide +kernel) rfl ?_
  refine ms_puti (idx := 1) (ci := 9) (k := 0) (q := 1391) (p' := 5) (by decide +kernel) rfl (k_223 hw) ?_
  refine ms_aload_n (k := 0) (p' := 6) (by decide +kernel) rfl rfl ?_
  refine ms_geti (idx := 133) (ci := 9) (k := 25) (q := 1416) (p' := 9) (by decide +kernel) rfl (k_223 hw) ?_
  refine ms_bipush (n := 20) (v := 20) (p' := 11) (by decide +kernel) rfl ?_
  refine ms_iadd (p' := 12) (by decide +kernel) rfl ?_
  refine ms_sipush (n := 900) (v := 900) (p' := 15) (by decide +kernel) rfl ?_
  refine ms_icmp_le (off := 5) (t := 20) (p' := 18) (by decide +kernel) rfl (fun hc => ?_) (fun hc => ?_)
  · refine ms_aload_n (k := 0) (p' := 21) (by decide +kernel) rfl rfl ?_
    refine ms_iload_n (k := 1) (p' := 22) (by decide +kernel) rfl rfl ?_
    refine ms_virt_u (idx := 136) (cy := yM_four) (n := 1) (a := 223) (as := [.inl x1]) (rest := []) (p' := 25) (by decide +kernel) rfl rfl rfl rfl (k_223 hw) rfl (fun f1 => ?_)
    refine ms_aload_n (k := 0) (p' := 26) (by decide +kernel) rfl rfl ?_
    refine ms_iload_n (k := 2) (p' := 27) (by decide +kernel) rfl rfl ?_
    refine ms_virt_u (idx := 136) (cy := yM_four) (n := 1) (a := 223) (as := [.inl x2]) (rest := []) (p' := 30) (by decide +kernel) rfl rfl rfl rfl (k_223 hw) rfl (fun f2 => ?_)
    refine ms_aload_n (k := 0) (p' := 31) (by decide +kernel) rfl rfl ?_
    refine ms_iload_n (k := 3) (p' := 32) (by decide +kernel) rfl rfl ?_
    refine ms_virt_u (idx := 136) (cy := yM_four) (n := 1) (a := 223) (as := [.inl x3]) (rest := []) (p' := 35) (by decide +kernel) rfl rfl rfl rfl (k_223 hw) rfl (fun f3 => ?_)
    refine ms_aload_n (k := 0) (p' := 36) (by decide +kernel) rfl rfl ?_
    refine ms_iload (k := 4) (p' := 38) (by decide +kernel) rfl rfl ?_
    refine ms_virt_u (idx := 136) (cy := yM_four) (n := 1) (a := 223) (as := [.inl x4]) (rest := []) (p' := 41) (by decide +kernel) rfl rfl rfl rfl (k_223 hw) rfl (fun f4 => ?_)
    refine ms_aload_n (k := 0) (p' := 42) (by decide +kernel) rfl rfl ?_
    refine ms_iload (k := 5) (p' := 44) (by decide +kernel) rfl rfl ?_
    refine ms_virt_u (idx := 136) (cy := yM_four) (n := 1) (a := 223) (as := [.inl x5]) (rest := []) (p' := 47) (by decide +kernel) rfl rfl rfl rfl (k_223 hw) rfl (fun f5 => ?_)
    refine ms_aload_n (k := 0) (p' := 48) (by decide +kernel) rfl rfl ?_
    refine ms_geti (idx := 133) (ci := 9) (k := 25) (q := 1416) (p' := 51) (by decide +kernel) rfl (k_223 hw) ?_
    exact ms_iret (by decide +kernel)
  · refine ms_iconst (n := (-1)) (v := (-1)) (p' := 19) (by decide +kernel) rfl ?_
    exact ms_iret (by decide +kernel)
theorem c_M_isIn {sw : Bool} {w : mj_W} (hw : wk sw w) (f : mj_F) (x0 : Int) (x1 : Int) (x2 : Int)  : mj_call yM_isIn w f [.inl x0, .inl x1, .inl x2] = if x0 < x1 then some (w, f, some (.inl 0)) else if x2 < x0 then some (w, f, some (.inl 0)) else some (w, f, some (.inl 1)) := by
  show mj_run yM_isIn w f 0 [.inl x0, .inl x1, .inl x2] [] = _
  refine ms_iload_n (k := 0) (p' := 1) (by decide +kernel) rfl rfl ?_
  refine ms_iload_n (k := 1) (p' := 2) (by decide +kernel) rfl rfl ?_
  refine ms_icmp_lt (off := 12) (t := 14) (p' := 5) (by decide +kernel) rfl (fun hc => ?_) (fun hc => ?_)
  · refine ms_iconst (n := 0) (v := 0) (p' := 15) (by decide +kernel) rfl ?_
    exact (ms_zret (by decide +kernel)).trans (mj_gd_pos (by decide) _)
  · refine ms_iload_n (k := 0) (p' := 6) (by decide +kernel) rfl rfl ?_
    refine ms_iload_n (k := 2) (p' := 7) (by decide +kernel) rfl rfl ?_
    refine ms_icmp_gt (off := 7) (t := 14) (p' := 10) (by decide +kernel) rfl (fun hc => ?_) (fun hc => ?_)
    · refine ms_iconst (n := 0) (v := 0) (p' := 15) (by decide +kernel) rfl ?_
      exact (ms_zret (by decide +kernel)).trans (mj_gd_pos (by decide) _)
    · refine ms_iconst (n := 1) (v := 1) (p' := 11) (by decide +kernel) rfl ?_
      refine ms_goto (off := 4) (p' := 15) (by decide +kernel) ?_
      exact (ms_zret (by decide +kernel)).trans (mj_gd_pos (by decide) _)
theorem c_M_see {sw : Bool} {w : mj_W} (hw : wk sw w) (f : mj_F)   : mj_call yM_see w f [.inr (.inl 223)] = if (f 223 26) ≤ (f 223 27) then some (w, f, some (.inl (-1))) else mj_gd (0 ≤ (f 223 27) ∧ (f 223 27) < ((900 : Nat) : Int)) (some (w, f, some (.inl (mj_and (f 240 (f 223 27).toNat) 255)))) := by
  show mj_run yM_see w f 0 [.inr (.inl 223)] [] = _
  refine ms_aload_n (k := 0) (p' := 1) (by decide +kernel) rfl rfl ?_
  refine ms_geti (idx := 139) (ci := 9) (k := 27) (q := 1418) (p' := 4) (by decide +kernel) rfl (k_223 hw) ?_
  refine ms_aload_n (k := 0) (p' := 5) (by decide +kernel) rfl rfl ?_
  refine ms_geti (idx := 142) (ci := 9) (k := 26) (q := 1417) (p' := 8) (by decide +kernel) rfl (k_223 hw) ?_
  refine ms_icmp_ge (off := 19) (t := 27) (p' := 11) (by decide +kernel) rfl (fun hc => ?_) (fun hc => ?_)
  · refine ms_iconst (n := (-1)) (v := (-1)) (p' := 28) (by decide +kernel) rfl ?_
    exact ms_iret (by decide +kernel)
  · refine ms_aload_n (k := 0) (p' := 12) (by decide +kernel) rfl rfl ?_
    refine ms_getr (idx := 62) (ci := 9) (k := 24) (q := 1415) (p' := 15) (by decide +kernel) rfl (k_223 hw) (r_223_24 hw) (by decide) ?_
    refine ms_aload_n (k := 0) (p' := 16) (by decide +kernel) rfl rfl ?_
    refine ms_geti (idx := 139) (ci := 9) (k := 27) (q := 1418) (p' := 19) (by decide +kernel) rfl (k_223 hw) ?_
    refine ms_bald (p' := 20) (by decide +kernel) rfl (k_240 hw) (fun hj1 => ?_)
    refine ms_sipush (n := 255) (v := 255) (p' := 23) (by decide +kernel) rfl ?_
    refine ms_iand (p' := 24) (by decide +kernel) rfl ?_
    refine ms_goto (off := 4) (p' := 28) (by decide +kernel) ?_
    exact ms_iret (by decide +kernel)
theorem c_M_advance {sw : Bool} {w : mj_W} (hw : wk sw w) (f : mj_F)   : mj_call yM_advance w f [.inr (.inl 223)] = mj_bi (mj_call yM_see w f [.inr (.inl 223)]) (fun f1 v2 => if v2 = 32 then mj_run yM_advance w f1 18 [.inr (.inl 223), .inr (.inr (.inr 0)), .inr (.inr (.inr 0))] [] else mj_bi (mj_call yM_see w f1 [.inr (.inl 223)]) (fun f3 v4 => if ¬ v4 = 10 then mj_bi (mj_call yM_see w (mj_u f3 223 28 (f3 223 27)) [.inr (.inl 223)]) (fun f5 v6 => if ¬ v6 = (-1) then mj_bi (mj_call yM_isIn w (mj_u f5 223 30 0) [.inl v6, .inl 97, .inl 122]) (fun f7 v8 => if v8 = 0 then mj_bi (mj_call yM_isIn w f7 [.inl v6, .inl 48, .inl 57]) (fun f9 v10 => if v10 = 0 then if ¬ v6 = 59 then if v6 = 60 then mj_run yM_advance w (mj_u f9 223 27 (mj_w ((f9 223 27) + 1))) 280 [.inr (.inl 223), .inl v6, .inr (.inr (.inr 0))] [.inr (.inl 223)] else if v6 = 61 then mj_run yM_advance w (mj_u f9 223 27 (mj_w ((f9 223 27) + 1))) 280 [.inr (.inl 223), .inl v6, .inr (.inr (.inr 0))] [.inr (.inl 223)] else if ¬ v6 = 62 then mj_run yM_advance w (mj_u f9 223 27 (mj_w ((f9 223 27) + 1))) 285 [.inr (.inl 223), .inl v6, .inr (.inr (.inr 0))] [.inl 5, .inr (.inl 223)] else mj_run yM_advance w (mj_u f9 223 27 (mj_w ((f9 223 27) + 1))) 280 [.inr (.inl 223), .inl v6, .inr (.inr (.inr 0))] [.inr (.inl 223)] else mj_run yM_advance w (mj_u f9 223 27 (mj_w ((f9 223 27) + 1))) 285 [.inr (.inl 223), .inl v6, .inr (.inr (.inr 0))] [.inl 3, .inr (.inl 223)] else mj_run yM_advance w (mj_u f9 223 29 2) 178 [.inr (.inl 223), .inl v6, .inr (.inr (.inr 0))] []) else mj_run yM_advance w f7 73 [.inr (.inl 223), .inl v6, .inr (.inr (.inr 0))] []) else mj_run yM_advance w (mj_u (mj_u f5 223 30 0) 223 29 0) 372 [.inr (.inl 223), .inl v6, .inr (.inr (.inr 0))] []) else mj_run yM_advance w f3 18 [.inr (.inl 223), .inr (.inr (.inr 0)), .inr (.inr (.inr 0))] [])) := by
  show mj_run yM_advance w f 0 [.inr (.inl 223), .inr (.inr (.inr 0)), .inr (.inr (.inr 0))] [] = _
  refine ms_aload_n (k := 0) (p' := 1) (by decide +kernel) rfl rfl ?_
  refine ms_virt_i (idx := 145) (cy := yM_see) (n := 0) (a := 223) (as := []) (rest := []) (p' := 4) (by decide +kernel) rfl rfl rfl rfl (k_223 hw) rfl (fun f1 v2 => ?_)
  refine ms_bipush (n := 32) (v := 32) (p' := 6) (by decide +kernel) rfl ?_
  refine ms_icmp_eq (off := 12) (t := 18) (p' := 9) (by decide +kernel) rfl (fun hc => ?_) (fun hc => ?_)
  · rfl
  · refine ms_aload_n (k := 0) (p' := 10) (by decide +kernel) rfl rfl ?_
    refine ms_virt_i (idx := 145) (cy := yM_see) (n := 0) (a := 223) (as := []) (rest := []) (p' := 13) (by decide +kernel) rfl rfl rfl rfl (k_223 hw) rfl (fun f3 v4 => ?_)
    refine ms_bipush (n := 10) (v := 10) (p' := 15) (by decide +kernel) rfl ?_
    refine ms_icmp_ne (off := 16) (t := 31) (p' := 18) (by decide +kernel) rfl (fun hc => ?_) (fun hc => ?_)
    · refine ms_aload_n (k := 0) (p' := 32) (by decide +kernel) rfl rfl ?_
      refine ms_aload_n (k := 0) (p' := 33) (by decide +kernel) rfl rfl ?_
      refine ms_geti (idx := 139) (ci := 9) (k := 27) (q := 1418) (p' := 36) (by decide +kernel) rfl (k_223 hw) ?_
      refine ms_puti (idx := 149) (ci := 9) (k := 28) (q := 1419) (p' := 39) (by decide +kernel) rfl (k_223 hw) ?_
      refine ms_aload_n (k := 0) (p' := 40) (by decide +kernel) rfl rfl ?_
      refine ms_virt_i (idx := 145) (cy := yM_see) (n := 0) (a := 223) (as := []) (rest := []) (p' := 43) (by decide +kernel) rfl rfl rfl rfl (k_223 hw) rfl (fun f5 v6 => ?_)
      refine ms_istore_n (k := 1) (ls' := [.inr (.inl 223), .inl v6, .inr (.inr (.inr 0))]) (p' := 44) (by decide +kernel) rfl (Nat.le_of_ble_eq_true rfl) rfl ?_
      refine ms_aload_n (k := 0) (p' := 45) (by decide +kernel) rfl rfl ?_
      refine ms_iconst (n := 0) (v := 0) (p' := 46) (by decide +kernel) rfl ?_
      refine ms_puti (idx := 152) (ci := 9) (k := 30) (q := 1421) (p' := 49) (by decide +kernel) rfl (k_223 hw) ?_
      refine ms_iload_n (k := 1) (p' := 50) (by decide +kernel) rfl rfl ?_
      refine ms_iconst (n := (-1)) (v := (-1)) (p' := 51) (by decide +kernel) rfl ?_
      refine ms_icmp_ne (off := 11) (t := 62) (p' := 54) (by decide +kernel) rfl (fun hc => ?_) (fun hc => ?_)
      · refine ms_iload_n (k := 1) (p' := 63) (by decide +kernel) rfl rfl ?_
        refine ms_bipush (n := 97) (v := 97) (p' := 65) (by decide +kernel) rfl ?_
        refine ms_bipush (n := 122) (v := 122) (p' := 67) (by decide +kernel) rfl ?_
        refine ms_stat_i (idx := 158) (cy := yM_isIn) (n := 3) (as := [.inl v6, .inl 97, .inl 122]) (rest := []) (p' := 70) (by decide +kernel) rfl rfl rfl rfl rfl (fun f7 v8 => ?_)
        refine ms_if_eq (off := 92) (t := 162) (p' := 73) (by decide +kernel) rfl (fun hc => ?_) (fun hc => ?_)
        · refine ms_iload_n (k := 1) (p' := 163) (by decide +kernel) rfl rfl ?_
          refine ms_bipush (n := 48) (v := 48) (p' := 165) (by decide +kernel) rfl ?_
          refine ms_bipush (n := 57) (v := 57) (p' := 167) (by decide +kernel) rfl ?_
          refine ms_stat_i (idx := 158) (cy := yM_isIn) (n := 3) (as := [.inl v6, .inl 48, .inl 57]) (rest := []) (p' := 170) (by decide +kernel) rfl rfl rfl rfl rfl (fun f9 v10 => ?_)
          refine ms_if_eq (off := 71) (t := 241) (p' := 173) (by decide +kernel) rfl (fun hc => ?_) (fun hc => ?_)
          · refine ms_aload_n (k := 0) (p' := 242) (by decide +kernel) rfl rfl ?_
            refine ms_dup_a (p' := 243) (by decide +kernel) rfl ?_
            refine ms_geti (idx := 139) (ci := 9) (k := 27) (q := 1418) (p' := 246) (by decide +kernel) rfl (k_223 hw) ?_
            refine ms_iconst (n := 1) (v := 1) (p' := 247) (by decide +kernel) rfl ?_
            refine ms_iadd (p' := 248) (by decide +kernel) rfl ?_
            refine ms_puti (idx := 139) (ci := 9) (k := 27) (q := 1418) (p' := 251) (by decide +kernel) rfl (k_223 hw) ?_
            refine ms_aload_n (k := 0) (p' := 252) (by decide +kernel) rfl rfl ?_
            refine ms_iload_n (k := 1) (p' := 253) (by decide +kernel) rfl rfl ?_
            refine ms_bipush (n := 59) (v := 59) (p' := 255) (by decide +kernel) rfl ?_
            refine ms_icmp_ne (off := 7) (t := 262) (p' := 258) (by decide +kernel) rfl (fun hc => ?_) (fun hc => ?_)
            · refine ms_iload_n (k := 1) (p' := 263) (by decide +kernel) rfl rfl ?_
              refine ms_bipush (n := 60) (v := 60) (p' := 265) (by decide +kernel) rfl ?_
              refine ms_icmp_eq (off := 15) (t := 280) (p' := 268) (by decide +kernel) rfl (fun hc => ?_) (fun hc => ?_)
              · rfl
              · refine ms_iload_n (k := 1) (p' := 269) (by decide +kernel) rfl rfl ?_
                refine ms_bipush (n := 61) (v := 61) (p' := 271) (by decide +kernel) rfl ?_
                refine ms_icmp_eq (off := 9) (t := 280) (p' := 274) (by decide +kernel) rfl (fun hc => ?_) (fun hc => ?_)
                · rfl
                · refine ms_iload_n (k := 1) (p' := 275) (by decide +kernel) rfl rfl ?_
                  refine ms_bipush (n := 62) (v := 62) (p' := 277) (by decide +kernel) rfl ?_
                  refine ms_icmp_ne (off := 7) (t := 284) (p' := 280) (by decide +kernel) rfl (fun hc => ?_) (fun hc => ?_)
                  · refine ms_iconst (n := 5) (v := 5) (p' := 285) (by decide +kernel) rfl ?_
                    rfl
                  · rfl
            · refine ms_iconst (n := 3) (v := 3) (p' := 259) (by decide +kernel) rfl ?_
              refine ms_goto (off := 26) (p' := 285) (by decide +kernel) ?_
              rfl
          · refine ms_aload_n (k := 0) (p' := 174) (by decide +kernel) rfl rfl ?_
            refine ms_iconst (n := 2) (v := 2) (p' := 175) (by decide +kernel) rfl ?_
            refine ms_puti (idx := 155) (ci := 9) (k := 29) (q := 1420) (p' := 178) (by decide +kernel) rfl (k_223 hw) ?_
            rfl
        · rfl
      · refine ms_aload_n (k := 0) (p' := 55) (by decide +kernel) rfl rfl ?_
        refine ms_iconst (n := 0) (v := 0) (p' := 56) (by decide +kernel) rfl ?_
        refine ms_puti (idx := 155) (ci := 9) (k := 29) (q := 1420) (p' := 59) (by decide +kernel) rfl (k_223 hw) ?_
        refine ms_goto (off := 313) (p' := 372) (by decide +kernel) ?_
        rfl
    · rfl
theorem l_M_advance_0 {sw : Bool} {w : mj_W} (hw : wk sw w) (f : mj_F)   : mj_run yM_advance w f 0 [.inr (.inl 223), .inr (.inr (.inr 0)), .inr (.inr (.inr 0))] [] = mj_bi (mj_call yM_see w f [.inr (.inl 223)]) (fun f11 v12 => if v12 = 32 then mj_run yM_advance w f11 18 [.inr (.inl 223), .inr (.inr (.inr 0)), .inr (.inr (.inr 0))] [] else mj_bi (mj_call yM_see w f11 [.inr (.inl 223)]) (fun f13 v14 => if ¬ v14 = 10 then mj_bi (mj_call yM_see w (mj_u f13 223 28 (f13 223 27)) [.inr (.inl 223)]) (fun f15 v16 => if ¬ v16 = (-1) then mj_bi (mj_call yM_isIn w (mj_u f15 223 30 0) [.inl v16, .inl 97, .inl 122]) (fun f17 v18 => if v18 = 0 then mj_bi (mj_call yM_isIn w f17 [.inl v16, .inl 48, .inl 57]) (fun f19 v20 => if v20 = 0 then if ¬ v16 = 59 then if v16 = 60 then mj_run yM_advance w (mj_u f19 223 27 (mj_w ((f19 223 27) + 1))) 280 [.inr (.inl 223), .inl v16, .inr (.inr (.inr 0))] [.inr (.inl 223)] else if v16 = 61 then mj_run yM_advance w (mj_u f19 223 27 (mj_w ((f19 223 27) + 1))) 280 [.inr (.inl 223), .inl v16, .inr (.inr (.inr 0))] [.inr (.inl 223)] else if ¬ v16 = 62 then mj_run yM_advance w (mj_u f19 223 27 (mj_w ((f19 223 27) + 1))) 285 [.inr (.inl 223), .inl v16, .inr (.inr (.inr 0))] [.inl 5, .inr (.inl 223)] else mj_run yM_advance w (mj_u f19 223 27 (mj_w ((f19 223 27) + 1))) 280 [.inr (.inl 223), .inl v16, .inr (.inr (.inr 0))] [.inr (.inl 223)] else mj_run yM_advance w (mj_u f19 223 27 (mj_w ((f19 223 27) + 1))) 285 [.inr (.inl 223), .inl v16, .inr (.inr (.inr 0))] [.inl 3, .inr (.inl 223)] else mj_run yM_advance w (mj_u f19 223 29 2) 178 [.inr (.inl 223), .inl v16, .inr (.inr (.inr 0))] []) else mj_run yM_advance w f17 73 [.inr (.inl 223), .inl v16, .inr (.inr (.inr 0))] []) else mj_run yM_advance w (mj_u (mj_u f15 223 30 0) 223 29 0) 372 [.inr (.inl 223), .inl v16, .inr (.inr (.inr 0))] []) else mj_run yM_advance w f13 18 [.inr (.inl 223), .inr (.inr (.inr 0)), .inr (.inr (.inr 0))] [])) := by
  refine ms_aload_n (k := 0) (p' := 1) (by decide +kernel) rfl rfl ?_
  refine ms_virt_i (idx := 145) (cy := yM_see) (n := 0) (a := 223) (as := []) (rest := []) (p' := 4) (by decide +kernel) rfl rfl rfl rfl (k_223 hw) rfl (fun f11 v12 => ?_)
  refine ms_bipush (n := 32) (v := 32) (p' := 6) (by decide +kernel) rfl ?_
  refine ms_icmp_eq (off := 12) (t := 18) (p' := 9) (by decide +kernel) rfl (fun hc => ?_) (fun hc => ?_)
  · rfl
  · refine ms_aload_n (k := 0) (p' := 10) (by decide +kernel) rfl rfl ?_
    refine ms_virt_i (idx := 145) (cy := yM_see) (n := 0) (a := 223) (as := []) (rest := []) (p' := 13) (by decide +kernel) rfl rfl rfl rfl (k_223 hw) rfl (fun f13 v14 => ?_)
    refine ms_bipush (n := 10) (v := 10) (p' := 15) (by decide +kernel) rfl ?_
    refine ms_icmp_ne (off := 16) (t := 31) (p' := 18) (by decide +kernel) rfl (fun hc => ?_) (fun hc => ?_)
    · refine ms_aload_n (k := 0) (p' := 32) (by decide +kernel) rfl rfl ?_
      refine ms_aload_n (k := 0) (p' := 33) (by decide +kernel) rfl rfl ?_
      refine ms_geti (idx := 139) (ci := 9) (k := 27) (q := 1418) (p' := 36) (by decide +kernel) rfl (k_223 hw) ?_
      refine ms_puti (idx := 149) (ci := 9) (k := 28) (q := 1419) (p' := 39) (by decide +kernel) rfl (k_223 hw) ?_
      refine ms_aload_n (k := 0) (p' := 40) (by decide +kernel) rfl rfl ?_
      refine ms_virt_i (idx := 145) (cy := yM_see) (n := 0) (a := 223) (as := []) (rest := []) (p' := 43) (by decide +kernel) rfl rfl rfl rfl (k_223 hw) rfl (fun f15 v16 => ?_)
      refine ms_istore_n (k := 1) (ls' := [.inr (.inl 223), .inl v16, .inr (.inr (.inr 0))]) (p' := 44) (by decide +kernel) rfl (Nat.le_of_ble_eq_true rfl) rfl ?_
      refine ms_aload_n (k := 0) (p' := 45) (by decide +kernel) rfl rfl ?_
      refine ms_iconst (n := 0) (v := 0) (p' := 46) (by decide +kernel) rfl ?_
      refine ms_puti (idx := 152) (ci := 9) (k := 30) (q := 1421) (p' := 49) (by decide +kernel) rfl (k_223 hw) ?_
      refine ms_iload_n (k := 1) (p' := 50) (by decide +kernel) rfl rfl ?_
      refine ms_iconst (n := (-1)) (v := (-1)) (p' := 51) (by decide +kernel) rfl ?_
      refine ms_icmp_ne (off := 11) (t := 62) (p' := 54) (by decide +kernel) rfl (fun hc => ?_) (fun hc => ?_)
      · refine ms_iload_n (k := 1) (p' := 63) (by decide +kernel) rfl rfl ?_
        refine ms_bipush (n := 97) (v := 97) (p' := 65) (by decide +kernel) rfl ?_
        refine ms_bipush (n := 122) (v := 122) (p' := 67) (by decide +kernel) rfl ?_
        refine ms_stat_i (idx := 158) (cy := yM_isIn) (n := 3) (as := [.inl v16, .inl 97, .inl 122]) (rest := []) (p' := 70) (by decide +kernel) rfl rfl rfl rfl rfl (fun f17 v18 => ?_)
        refine ms_if_eq (off := 92) (t := 162) (p' := 73) (by decide +kernel) rfl (fun hc => ?_) (fun hc => ?_)
        · refine ms_iload_n (k := 1) (p' := 163) (by decide +kernel) rfl rfl ?_
          refine ms_bipush (n := 48) (v := 48) (p' := 165) (by decide +kernel) rfl ?_
          refine ms_bipush (n := 57) (v := 57) (p' := 167) (by decide +kernel) rfl ?_
          refine ms_stat_i (idx := 158) (cy := yM_isIn) (n := 3) (as := [.inl v16, .inl 48, .inl 57]) (rest := []) (p' := 170) (by decide +kernel) rfl rfl rfl rfl rfl (fun f19 v20 => ?_)
          refine ms_if_eq (off := 71) (t := 241) (p' := 173) (by decide +kernel) rfl (fun hc => ?_) (fun hc => ?_)
          · refine ms_aload_n (k := 0) (p' := 242) (by decide +kernel) rfl rfl ?_
            refine ms_dup_a (p' := 243) (by decide +kernel) rfl ?_
            refine ms_geti (idx := 139) (ci := 9) (k := 27) (q := 1418) (p' := 246) (by decide +kernel) rfl (k_223 hw) ?_
            refine ms_iconst (n := 1) (v := 1) (p' := 247) (by decide +kernel) rfl ?_
            refine ms_iadd (p' := 248) (by decide +kernel) rfl ?_
            refine ms_puti (idx := 139) (ci := 9) (k := 27) (q := 1418) (p' := 251) (by decide +kernel) rfl (k_223 hw) ?_
            refine ms_aload_n (k := 0) (p' := 252) (by decide +kernel) rfl rfl ?_
            refine ms_iload_n (k := 1) (p' := 253) (by decide +kernel) rfl rfl ?_
            refine ms_bipush (n := 59) (v := 59) (p' := 255) (by decide +kernel) rfl ?_
            refine ms_icmp_ne (off := 7) (t := 262) (p' := 258) (by decide +kernel) rfl (fun hc => ?_) (fun hc => ?_)
            · refine ms_iload_n (k := 1) (p' := 263) (by decide +kernel) rfl rfl ?_
              refine ms_bipush (n := 60) (v := 60) (p' := 265) (by decide +kernel) rfl ?_
              refine ms_icmp_eq (off := 15) (t := 280) (p' := 268) (by decide +kernel) rfl (fun hc => ?_) (fun hc => ?_)
              · rfl
              · refine ms_iload_n (k := 1) (p' := 269) (by decide +kernel) rfl rfl ?_
                refine ms_bipush (n := 61) (v := 61) (p' := 271) (by decide +kernel) rfl ?_
                refine ms_icmp_eq (off := 9) (t := 280) (p' := 274) (by decide +kernel) rfl (fun hc => ?_) (fun hc => ?_)
                · rfl
                · refine ms_iload_n (k := 1) (p' := 275) (by decide +kernel) rfl rfl ?_
                  refine ms_bipush (n := 62) (v := 62) (p' := 277) (by decide +kernel) rfl ?_
                  refine ms_icmp_ne (off := 7) (t := 284) (p' := 280) (by decide +kernel) rfl (fun hc => ?_) (fun hc => ?_)
                  · refine ms_iconst (n := 5) (v := 5) (p' := 285) (by decide +kernel) rfl ?_
                    rfl
                  · rfl
            · refine ms_iconst (n := 3) (v := 3) (p' := 259) (by decide +kernel) rfl ?_
              refine ms_goto (off := 26) (p' := 285) (by decide +kernel) ?_
              rfl
          · refine ms_aload_n (k := 0) (p' := 174) (by decide +kernel) rfl rfl ?_
            refine ms_iconst (n := 2) (v := 2) (p' := 175) (by decide +kernel) rfl ?_
            refine ms_puti (idx := 155) (ci := 9) (k := 29) (q := 1420) (p' := 178) (by decide +kernel) rfl (k_223 hw) ?_
            rfl
        · rfl
      · refine ms_aload_n (k := 0) (p' := 55) (by decide +kernel) rfl rfl ?_
        refine ms_iconst (n := 0) (v := 0) (p' := 56) (by decide +kernel) rfl ?_
        refine ms_puti (idx := 155) (ci := 9) (k := 29) (q := 1420) (p' := 59) (by decide +kernel) rfl (k_223 hw) ?_
        refine ms_goto (off := 313) (p' := 372) (by decide +kernel) ?_
        rfl
    · rfl
theorem l_M_advance_18 {sw : Bool} {w : mj_W} (hw : wk sw w) (f : mj_F)   : mj_run yM_advance w f 18 [.inr (.inl 223), .inr (.inr (.inr 0)), .inr (.inr (.inr 0))] [] = mj_run yM_advance w (mj_u f 223 27 (mj_w ((f 223 27) + 1))) 0 [.inr (.inl 223), .inr (.inr (.inr 0)), .inr (.inr (.inr 0))] [] := by
  refine ms_aload_n (k := 0) (p' := 19) (by decide +kernel) rfl rfl ?_
  refine ms_dup_a (p' := 20) (by decide +kernel) rfl ?_
  refine ms_geti (idx := 139) (ci := 9) (k := 27) (q := 1418) (p' := 23) (by decide +kernel) rfl (k_223 hw) ?_
  refine ms_iconst (n := 1) (v := 1) (p' := 24) (by decide +kernel) rfl ?_
  refine ms_iadd (p' := 25) (by decide +kernel) rfl ?_
  refine ms_puti (idx := 139) (ci := 9) (k := 27) (q := 1418) (p' := 28) (by decide +kernel) rfl (k_223 hw) ?_
  refine ms_goto (off := (-28)) (p' := 0) (by decide +kernel) ?_
  rfl
theorem l_M_advance_73 {sw : Bool} {w : mj_W} (hw : wk sw w) (f : mj_F) (x1 : Int)  : mj_run yM_advance w f 73 [.inr (.inl 223), .inl x1, .inr (.inr (.inr 0))] [] = mj_bi (mj_call yM_see w f [.inr (.inl 223)]) (fun f21 v22 => mj_bi (mj_call yM_isIn w f21 [.inl v22, .inl 97, .inl 122]) (fun f23 v24 => if v24 = 0 then if 6 < (mj_w ((f23 223 27) - (f23 223 28))) then mj_run yM_advance w f23 156 [.inr (.inl 223), .inl x1, .inr (.inr (.inr 0))] [.inl 5, .inr (.inl 223)] else mj_run yM_advance w f23 156 [.inr (.inl 223), .inl x1, .inr (.inr (.inr 0))] [.inl 1, .inr (.inl 223)] else if 6 ≤ (mj_w ((f23 223 27) - (f23 223 28))) then mj_run yM_advance w f23 120 [.inr (.inl 223), .inl x1, .inr (.inr (.inr 0))] [.inl 0, .inr (.inl 223)] else mj_bi (mj_call yM_see w f23 [.inr (.inl 223)]) (fun f25 v26 => mj_run yM_advance w f25 120 [.inr (.inl 223), .inl x1, .inr (.inr (.inr 0))] [.inl (mj_or (mj_shl (f23 223 30) 5) (mj_w (v26 - 96))), .inr (.inl 223)]))) := by
  refine ms_aload_n (k := 0) (p' := 74) (by decide +kernel) rfl rfl ?_
  refine ms_virt_i (idx := 145) (cy := yM_see) (n := 0) (a := 223) (as := []) (rest := []) (p' := 77) (by decide +kernel) rfl rfl rfl rfl (k_223 hw) rfl (fun f21 v22 => ?_)
  refine ms_bipush (n := 97) (v := 97) (p' := 79) (by decide +kernel) rfl ?_
  refine ms_bipush (n := 122) (v := 122) (p' := 81) (by decide +kernel) rfl ?_
  refine ms_stat_i (idx := 158) (cy := yM_isIn) (n := 3) (as := [.inl v22, .inl 97, .inl 122]) (rest := []) (p' := 84) (by decide +kernel) rfl rfl rfl rfl rfl (fun f23 v24 => ?_)
  refine ms_if_eq (off := 52) (t := 136) (p' := 87) (by decide +kernel) rfl (fun hc => ?_) (fun hc => ?_)
  · refine ms_aload_n (k := 0) (p' := 137) (by decide +kernel) rfl rfl ?_
    refine ms_aload_n (k := 0) (p' := 138) (by decide +kernel) rfl rfl ?_
    refine ms_geti (idx := 139) (ci := 9) (k := 27) (q := 1418) (p' := 141) (by decide +kernel) rfl (k_223 hw) ?_
    refine ms_aload_n (k := 0) (p' := 142) (by decide +kernel) rfl rfl ?_
    refine ms_geti (idx := 149) (ci := 9) (k := 28) (q := 1419) (p' := 145) (by decide +kernel) rfl (k_223 hw) ?_
    refine ms_isub (p' := 146) (by decide +kernel) rfl ?_
    refine ms_bipush (n := 6) (v := 6) (p' := 148) (by decide +kernel) rfl ?_
    refine ms_icmp_gt (off := 7) (t := 155) (p' := 151) (by decide +kernel) rfl (fun hc => ?_) (fun hc => ?_)
    · refine ms_iconst (n := 5) (v := 5) (p' := 156) (by decide +kernel) rfl ?_
      rfl
    · refine ms_iconst (n := 1) (v := 1) (p' := 152) (by decide +kernel) rfl ?_
      refine ms_goto (off := 4) (p' := 156) (by decide +kernel) ?_
      rfl
  · refine ms_aload_n (k := 0) (p' := 88) (by decide +kernel) rfl rfl ?_
    refine ms_aload_n (k := 0) (p' := 89) (by decide +kernel) rfl rfl ?_
    refine ms_geti (idx := 139) (ci := 9) (k := 27) (q := 1418) (p' := 92) (by decide +kernel) rfl (k_223 hw) ?_
    refine ms_aload_n (k := 0) (p' := 93) (by decide +kernel) rfl rfl ?_
    refine ms_geti (idx := 149) (ci := 9) (k := 28) (q := 1419) (p' := 96) (by decide +kernel) rfl (k_223 hw) ?_
    refine ms_isub (p' := 97) (by decide +kernel) rfl ?_
    refine ms_bipush (n := 6) (v := 6) (p' := 99) (by decide +kernel) rfl ?_
    refine ms_icmp_ge (off := 20) (t := 119) (p' := 102) (by decide +kernel) rfl (fun hc => ?_) (fun hc => ?_)
    · refine ms_iconst (n := 0) (v := 0) (p' := 120) (by decide +kernel) rfl ?_
      rfl
    · refine ms_aload_n (k := 0) (p' := 103) (by decide +kernel) rfl rfl ?_
      refine ms_geti (idx := 152) (ci := 9) (k := 30) (q := 1421) (p' := 106) (by decide +kernel) rfl (k_223 hw) ?_
      refine ms_iconst (n := 5) (v := 5) (p' := 107) (by decide +kernel) rfl ?_
      refine ms_ishl (p' := 108) (by decide +kernel) rfl ?_
      refine ms_aload_n (k := 0) (p' := 109) (by decide +kernel) rfl rfl ?_
      refine ms_virt_i (idx := 145) (cy := yM_see) (n := 0) (a := 223) (as := []) (rest := [.inl (mj_shl (f23 223 30) 5), .inr (.inl 223)]) (p' := 112) (by decide +kernel) rfl rfl rfl rfl (k_223 hw) rfl (fun f25 v26 => ?_)
      refine ms_bipush (n := 96) (v := 96) (p' := 114) (by decide +kernel) rfl ?_
      refine ms_isub (p' := 115) (by decide +kernel) rfl ?_
      refine ms_ior (p' := 116) (by decide +kernel) rfl ?_
      refine ms_goto (off := 4) (p' := 120) (by decide +kernel) ?_
      rfl
theorem l_M_advance_120 {sw : Bool} {w : mj_W} (hw : wk sw w) (f : mj_F) (x1 : Int) (xs1 : Int)  : mj_run yM_advance w f 120 [.inr (.inl 223), .inl x1, .inr (.inr (.inr 0))] [.inl xs1, .inr (.inl 223)] = mj_run yM_advance w (mj_u (mj_u f 223 30 xs1) 223 27 (mj_w ((mj_u f 223 30 xs1 223 27) + 1))) 73 [.inr (.inl 223), .inl x1, .inr (.inr (.inr 0))] [] := by
  refine ms_puti (idx := 152) (ci := 9) (k := 30) (q := 1421) (p' := 123) (by decide +kernel) rfl (k_223 hw) ?_
  refine ms_aload_n (k := 0) (p' := 124) (by decide +kernel) rfl rfl ?_
  refine ms_dup_a (p' := 125) (by decide +kernel) rfl ?_
  refine ms_geti (idx := 139) (ci := 9) (k := 27) (q := 1418) (p' := 128) (by decide +kernel) rfl (k_223 hw) ?_
  refine ms_iconst (n := 1) (v := 1) (p' := 129) (by decide +kernel) rfl ?_
  refine ms_iadd (p' := 130) (by decide +kernel) rfl ?_
  refine ms_puti (idx := 139) (ci := 9) (k := 27) (q := 1418) (p' := 133) (by decide +kernel) rfl (k_223 hw) ?_
  refine ms_goto (off := (-60)) (p' := 73) (by decide +kernel) ?_
  rfl
theorem l_M_advance_156 {sw : Bool} {w : mj_W} (hw : wk sw w) (f : mj_F) (x1 : Int) (xs1 : Int)  : mj_run yM_advance w f 156 [.inr (.inl 223), .inl x1, .inr (.inr (.inr 0))] [.inl xs1, .inr (.inl 223)] = mj_run yM_advance w (mj_u f 223 29 xs1) 372 [.inr (.inl 223), .inl x1, .inr (.inr (.inr 0))] [] := by
  refine ms_puti (idx := 155) (ci := 9) (k := 29) (q := 1420) (p' := 159) (by decide +kernel) rfl (k_223 hw) ?_
  refine ms_goto (off := 213) (p' := 372) (by decide +kernel) ?_
  rfl
theorem l_M_advance_178 {sw : Bool} {w : mj_W} (hw : wk sw w) (f : mj_F) (x1 : Int)  : mj_run yM_advance w f 178 [.inr (.inl 223), .inl x1, .inr (.inr (.inr 0))] [] = mj_bi (mj_call yM_see w f [.inr (.inl 223)]) (fun f27 v28 => mj_bi (mj_call yM_isIn w f27 [.inl v28, .inl 48, .inl 57]) (fun f29 v30 => if v30 = 0 then mj_run yM_advance w f29 372 [.inr (.inl 223), .inl x1, .inr (.inr (.inr 0))] [] else if (f29 223 30) ≤ 1000 then mj_bi (mj_call yM_see w f29 [.inr (.inl 223)]) (fun f31 v32 => mj_run yM_advance w f31 225 [.inr (.inl 223), .inl x1, .inr (.inr (.inr 0))] [.inl (mj_w ((mj_w ((mj_w (10 * (f29 223 30))) + v32)) - 48)), .inr (.inl 223)]) else mj_run yM_advance w f29 225 [.inr (.inl 223), .inl x1, .inr (.inr (.inr 0))] [.inl (f29 223 30), .inr (.inl 223)])) := by
  refine ms_aload_n (k := 0) (p' := 179) (by decide +kernel) rfl rfl ?_
  refine ms_virt_i (idx := 145) (cy := yM_see) (n := 0) (a := 223) (as := []) (rest := []) (p' := 182) (by decide +kernel) rfl rfl rfl rfl (k_223 hw) rfl (fun f27 v28 => ?_)
  refine ms_bipush (n := 48) (v := 48) (p' := 184) (by decide +kernel) rfl ?_
  refine ms_bipush (n := 57) (v := 57) (p' := 186) (by decide +kernel) rfl ?_
  refine ms_stat_i (idx := 158) (cy := yM_isIn) (n := 3) (as := [.inl v28, .inl 48, .inl 57]) (rest := []) (p' := 189) (by decide +kernel) rfl rfl rfl rfl rfl (fun f29 v30 => ?_)
  refine ms_if_eq (off := 183) (t := 372) (p' := 192) (by decide +kernel) rfl (fun hc => ?_) (fun hc => ?_)
  · rfl
  · refine ms_aload_n (k := 0) (p' := 193) (by decide +kernel) rfl rfl ?_
    refine ms_aload_n (k := 0) (p' := 194) (by decide +kernel) rfl rfl ?_
    refine ms_geti (idx := 152) (ci := 9) (k := 30) (q := 1421) (p' := 197) (by decide +kernel) rfl (k_223 hw) ?_
    refine ms_sipush (n := 1000) (v := 1000) (p' := 200) (by decide +kernel) rfl ?_
    refine ms_icmp_le (off := 10) (t := 210) (p' := 203) (by decide +kernel) rfl (fun hc => ?_) (fun hc => ?_)
    · refine ms_bipush (n := 10) (v := 10) (p' := 212) (by decide +kernel) rfl ?_
      refine ms_aload_n (k := 0) (p' := 213) (by decide +kernel) rfl rfl ?_
      refine ms_geti (idx := 152) (ci := 9) (k := 30) (q := 1421) (p' := 216) (by decide +kernel) rfl (k_223 hw) ?_
      refine ms_imul (p' := 217) (by decide +kernel) rfl ?_
      refine ms_aload_n (k := 0) (p' := 218) (by decide +kernel) rfl rfl ?_
      refine ms_virt_i (idx := 145) (cy := yM_see) (n := 0) (a := 223) (as := []) (rest := [.inl (mj_w (10 * (f29 223 30))), .inr (.inl 223)]) (p' := 221) (by decide +kernel) rfl rfl rfl rfl (k_223 hw) rfl (fun f31 v32 => ?_)
      refine ms_iadd (p' := 222) (by decide +kernel) rfl ?_
      refine ms_bipush (n := 48) (v := 48) (p' := 224) (by decide +kernel) rfl ?_
      refine ms_isub (p' := 225) (by decide +kernel) rfl ?_
      rfl
    · refine ms_aload_n (k := 0) (p' := 204) (by decide +kernel) rfl rfl ?_
      refine ms_geti (idx := 152) (ci := 9) (k := 30) (q := 1421) (p' := 207) (by decide +kernel) rfl (k_223 hw) ?_
      refine ms_goto (off := 18) (p' := 225) (by decide +kernel) ?_
      rfl
theorem l_M_advance_225 {sw : Bool} {w : mj_W} (hw : wk sw w) (f : mj_F) (x1 : Int) (xs1 : Int)  : mj_run yM_advance w f 225 [.inr (.inl 223), .inl x1, .inr (.inr (.inr 0))] [.inl xs1, .inr (.inl 223)] = mj_run yM_advance w (mj_u (mj_u f 223 30 xs1) 223 27 (mj_w ((mj_u f 223 30 xs1 223 27) + 1))) 178 [.inr (.inl 223), .inl x1, .inr (.inr (.inr 0))] [] := by
  refine ms_puti (idx := 152) (ci := 9) (k := 30) (q := 1421) (p' := 228) (by decide +kernel) rfl (k_223 hw) ?_
  refine ms_aload_n (k := 0) (p' := 229) (by decide +kernel) rfl rfl ?_
  refine ms_dup_a (p' := 230) (by decide +kernel) rfl ?_
  refine ms_geti (idx := 139) (ci := 9) (k := 27) (q := 1418) (p' := 233) (by decide +kernel) rfl (k_223 hw) ?_
  refine ms_iconst (n := 1) (v := 1) (p' := 234) (by decide +kernel) rfl ?_
  refine ms_iadd (p' := 235) (by decide +kernel) rfl ?_
  refine ms_puti (idx := 139) (ci := 9) (k := 27) (q := 1418) (p' := 238) (by decide +kernel) rfl (k_223 hw) ?_
  refine ms_goto (off := (-60)) (p' := 178) (by decide +kernel) ?_
  rfl
theorem l_M_advance_280 {sw : Bool} {w : mj_W} (hw : wk sw w) (f : mj_F) (x1 : Int)  : mj_run yM_advance w f 280 [.inr (.inl 223), .inl x1, .inr (.inr (.inr 0))] [.inr (.inl 223)] = mj_run yM_advance w f 285 [.inr (.inl 223), .inl x1, .inr (.inr (.inr 0))] [.inl 4, .inr (.inl 223)] := by
  refine ms_iconst (n := 4) (v := 4) (p' := 281) (by decide +kernel) rfl ?_
  refine ms_goto (off := 4) (p' := 285) (by decide +kernel) ?_
  rfl
theorem l_M_advance_285 {sw : Bool} {w : mj_W} (hw : wk sw w) (f : mj_F) (x1 : Int) (xs1 : Int)  : mj_run yM_advance w f 285 [.inr (.inl 223), .inl x1, .inr (.inr (.inr 0))] [.inl xs1, .inr (.inl 223)] = if x1 = 61 then mj_run yM_advance w (mj_u f 223 29 xs1) 315 [.inr (.inl 223), .inl x1, .inr (.inr (.inr 0))] [] else if ¬ (mj_u f 223 29 xs1 223 29) = 4 then mj_run yM_advance w (mj_u f 223 29 xs1) 315 [.inr (.inl 223), .inl x1, .inr (.inr (.inr 0))] [] else mj_bi (mj_call yM_see w (mj_u f 223 29 xs1) [.inr (.inl 223)]) (fun f33 v34 => if ¬ v34 = 61 then mj_run yM_advance w f33 315 [.inr (.inl 223), .inl x1, .inr (.inr (.inr 0))] [] else mj_run yM_advance w f33 316 [.inr (.inl 223), .inl x1, .inr (.inr (.inr 0))] [.inl 1]) := by
  refine ms_puti (idx := 155) (ci := 9) (k := 29) (q := 1420) (p' := 288) (by decide +kernel) rfl (k_223 hw) ?_
  refine ms_iload_n (k := 1) (p' := 289) (by decide +kernel) rfl rfl ?_
  refine ms_bipush (n := 61) (v := 61) (p' := 291) (by decide +kernel) rfl ?_
  refine ms_icmp_eq (off := 24) (t := 315) (p' := 294) (by decide +kernel) rfl (fun hc => ?_) (fun hc => ?_)
  · rfl
  · refine ms_aload_n (k := 0) (p' := 295) (by decide +kernel) rfl rfl ?_
    refine ms_geti (idx := 155) (ci := 9) (k := 29) (q := 1420) (p' := 298) (by decide +kernel) rfl (k_223 hw) ?_
    refine ms_iconst (n := 4) (v := 4) (p' := 299) (by decide +kernel) rfl ?_
    refine ms_icmp_ne (off := 16) (t := 315) (p' := 302) (by decide +kernel) rfl (fun hc => ?_) (fun hc => ?_)
    · rfl
    · refine ms_aload_n (k := 0) (p' := 303) (by decide +kernel) rfl rfl ?_
      refine ms_virt_i (idx := 145) (cy := yM_see) (n := 0) (a := 223) (as := []) (rest := []) (p' := 306) (by decide +kernel) rfl rfl rfl rfl (k_223 hw) rfl (fun f33 v34 => ?_)
      refine ms_bipush (n := 61) (v := 61) (p' := 308) (by decide +kernel) rfl ?_
      refine ms_icmp_ne (off := 7) (t := 315) (p' := 311) (by decide +kernel) rfl (fun hc => ?_) (fun hc => ?_)
      · rfl
      · refine ms_iconst (n := 1) (v := 1) (p' := 312) (by decide +kernel) rfl ?_
        refine ms_goto (off := 4) (p' := 316) (by decide +kernel) ?_
        rfl
theorem l_M_advance_315 {sw : Bool} {w : mj_W} (hw : wk sw w) (f : mj_F) (x1 : Int)  : mj_run yM_advance w f 315 [.inr (.inl 223), .inl x1, .inr (.inr (.inr 0))] [] = mj_run yM_advance w f 316 [.inr (.inl 223), .inl x1, .inr (.inr (.inr 0))] [.inl 0] := by
  refine ms_iconst (n := 0) (v := 0) (p' := 316) (by decide +kernel) rfl ?_
  rfl
theorem l_M_advance_316 {sw : Bool} {w : mj_W} (hw : wk sw w) (f : mj_F) (x1 : Int) (xs0 : Int)  : mj_run yM_advance w f 316 [.inr (.inl 223), .inl x1, .inr (.inr (.inr 0))] [.inl xs0] = if xs0 = 0 then mj_run yM_advance w f 331 [.inr (.inl 223), .inl x1, .inl xs0] [] else mj_run yM_advance w (mj_u f 223 27 (mj_w ((f 223 27) + 1))) 331 [.inr (.inl 223), .inl x1, .inl xs0] [] := by
  refine ms_istore_n (k := 2) (ls' := [.inr (.inl 223), .inl x1, .inl xs0]) (p' := 317) (by decide +kernel) rfl (Nat.le_of_ble_eq_true rfl) rfl ?_
  refine ms_iload_n (k := 2) (p' := 318) (by decide +kernel) rfl rfl ?_
  refine ms_if_eq (off := 13) (t := 331) (p' := 321) (by decide +kernel) rfl (fun hc => ?_) (fun hc => ?_)
  · rfl
  · refine ms_aload_n (k := 0) (p' := 322) (by decide +kernel) rfl rfl ?_
    refine ms_dup_a (p' := 323) (by decide +kernel) rfl ?_
    refine ms_geti (idx := 139) (ci := 9) (k := 27) (q := 1418) (p' := 326) (by decide +kernel) rfl (k_223 hw) ?_
    refine ms_iconst (n := 1) (v := 1) (p' := 327) (by decide +kernel) rfl ?_
    refine ms_iadd (p' := 328) (by decide +kernel) rfl ?_
    refine ms_puti (idx := 139) (ci := 9) (k := 27) (q := 1418) (p' := 331) (by decide +kernel) rfl (k_223 hw) ?_
    rfl
theorem l_M_advance_331 {sw : Bool} {w : mj_W} (hw : wk sw w) (f : mj_F) (x1 : Int) (x2 : Int)  : mj_run yM_advance w f 331 [.inr (.inl 223), .inl x1, .inl x2] [] = if ¬ x1 = 61 then if ¬ x1 = 60 then if x2 = 0 then mj_run yM_advance w f 369 [.inr (.inl 223), .inl x1, .inl x2] [.inl 4, .inr (.inl 223)] else mj_run yM_advance w f 369 [.inr (.inl 223), .inl x1, .inl x2] [.inl 3, .inr (.inl 223)] else if x2 = 0 then mj_run yM_advance w f 369 [.inr (.inl 223), .inl x1, .inl x2] [.inl 0, .inr (.inl 223)] else mj_run yM_advance w f 369 [.inr (.inl 223), .inl x1, .inl x2] [.inl 1, .inr (.inl 223)] else mj_run yM_advance w f 369 [.inr (.inl 223), .inl x1, .inl x2] [.inl 2, .inr (.inl 223)] := by
  refine ms_aload_n (k := 0) (p' := 332) (by decide +kernel) rfl rfl ?_
  refine ms_iload_n (k := 1) (p' := 333) (by decide +kernel) rfl rfl ?_
  refine ms_bipush (n := 61) (v := 61) (p' := 335) (by decide +kernel) rfl ?_
  refine ms_icmp_ne (off := 7) (t := 342) (p' := 338) (by decide +kernel) rfl (fun hc => ?_) (fun hc => ?_)
  · refine ms_iload_n (k := 1) (p' := 343) (by decide +kernel) rfl rfl ?_
    refine ms_bipush (n := 60) (v := 60) (p' := 345) (by decide +kernel) rfl ?_
    refine ms_icmp_ne (off := 15) (t := 360) (p' := 348) (by decide +kernel) rfl (fun hc => ?_) (fun hc => ?_)
    · refine ms_iload_n (k := 2) (p' := 361) (by decide +kernel) rfl rfl ?_
      refine ms_if_eq (off := 7) (t := 368) (p' := 364) (by decide +kernel) rfl (fun hc => ?_) (fun hc => ?_)
      · refine ms_iconst (n := 4) (v := 4) (p' := 369) (by decide +kernel) rfl ?_
        rfl
      · refine ms_iconst (n := 3) (v := 3) (p' := 365) (by decide +kernel) rfl ?_
        refine ms_goto (off := 4) (p' := 369) (by decide +kernel) ?_
        rfl
    · refine ms_iload_n (k := 2) (p' := 349) (by decide +kernel) rfl rfl ?_
      refine ms_if_eq (off := 7) (t := 356) (p' := 352) (by decide +kernel) rfl (fun hc => ?_) (fun hc => ?_)
      · refine ms_iconst (n := 0) (v := 0) (p' := 357) (by decide +kernel) rfl ?_
        refine ms_goto (off := 12) (p' := 369) (by decide +kernel) ?_
        rfl
      · refine ms_iconst (n := 1) (v := 1) (p' := 353) (by decide +kernel) rfl ?_
        refine ms_goto (off := 16) (p' := 369) (by decide +kernel) ?_
        rfl
  · refine ms_iconst (n := 2) (v := 2) (p' := 339) (by decide +kernel) rfl ?_
    refine ms_goto (off := 30) (p' := 369) (by decide +kernel) ?_
    rfl
theorem l_M_advance_369 {sw : Bool} {w : mj_W} (hw : wk sw w) (f : mj_F) (x1 : Int) (x2 : Int) (xs1 : Int)  : mj_run yM_advance w f 369 [.inr (.inl 223), .inl x1, .inl x2] [.inl xs1, .inr (.inl 223)] = mj_run yM_advance w (mj_u f 223 30 xs1) 372 [.inr (.inl 223), .inl x1, .inl x2] [] := by
  refine ms_puti (idx := 152) (ci := 9) (k := 30) (q := 1421) (p' := 372) (by decide +kernel) rfl (k_223 hw) ?_
  rfl
theorem l_M_advance_372 {sw : Bool} {w : mj_W} (hw : wk sw w) (f : mj_F) (x1 : Int) (u2 : mj_V)  : mj_run yM_advance w f 372 [.inr (.inl 223), .inl x1, u2] [] = some (w, f, none) := by
  exact ms_vret (by decide +kernel)
theorem c_M_isWord {sw : Bool} {w : mj_W} (hw : wk sw w) (f : mj_F) (x1 : Int)  : mj_call yM_isWord w f [.inr (.inl 223), .inl x1] = if ¬ (f 223 33) = 0 then some (w, f, some (.inl 0)) else if ¬ (f 223 29) = 1 then some (w, f, some (.inl 0)) else if ¬ (f 223 30) = x1 then some (w, f, some (.inl 0)) else some (w, f, some (.inl 1)) := by
  show mj_run yM_isWord w f 0 [.inr (.inl 223), .inl x1] [] = _
  refine ms_aload_n (k := 0) (p' := 1) (by decide +kernel) rfl rfl ?_
  refine ms_geti (idx := 162) (ci := 9) (k := 33) (q := 1424) (p' := 4) (by decide +kernel) rfl (k_223 hw) ?_
  refine ms_if_ne (off := 23) (t := 27) (p' := 7) (by decide +kernel) rfl (fun hc => ?_) (fun hc => ?_)
  · refine ms_iconst (n := 0) (v := 0) (p' := 28) (by decide +kernel) rfl ?_
    exact (ms_zret (by decide +kernel)).trans (mj_gd_pos (by decide) _)
  · refine ms_aload_n (k := 0) (p' := 8) (by decide +kernel) rfl rfl ?_
    refine ms_geti (idx := 155) (ci := 9) (k := 29) (q := 1420) (p' := 11) (by decide +kernel) rfl (k_223 hw) ?_
    refine ms_iconst (n := 1) (v := 1) (p' := 12) (by decide +kernel) rfl ?_
    refine ms_icmp_ne (off := 15) (t := 27) (p' := 15) (by decide +kernel) rfl (fun hc => ?_) (fun hc => ?_)
    · refine ms_iconst (n := 0) (v := 0) (p' := 28) (by decide +kernel) rfl ?_
      exact (ms_zret (by decide +kernel)).trans (mj_gd_pos (by decide) _)
    · refine ms_aload_n (k := 0) (p' := 16) (by decide +kernel) rfl rfl ?_
      refine ms_geti (idx := 152) (ci := 9) (k := 30) (q := 1421) (p' := 19) (by decide +kernel) rfl (k_223 hw) ?_
      refine ms_iload_n (k := 1) (p' := 20) (by decide +kernel) rfl rfl ?_
      refine ms_icmp_ne (off := 7) (t := 27) (p' := 23) (by decide +kernel) rfl (fun hc => ?_) (fun hc => ?_)
      · refine ms_iconst (n := 0) (v := 0) (p' := 28) (by decide +kernel) rfl ?_
        exact (ms_zret (by decide +kernel)).trans (mj_gd_pos (by decide) _)
      · refine ms_iconst (n := 1) (v := 1) (p' := 24) (by decide +kernel) rfl ?_
        refine ms_goto (off := 4) (p' := 28) (by decide +kernel) ?_
        exact (ms_zret (by decide +kernel)).trans (mj_gd_pos (by decide) _)
theorem c_M_must {sw : Bool} {w : mj_W} (hw : wk sw w) (f : mj_F) (x1 : Int) (x2 : Int)  : mj_call yM_must w f [.inr (.inl 223), .inl x1, .inl x2] = if ¬ x1 = 0 then some (w, f, none) else if (f 223 33) = 0 then some (w, (mj_u (mj_u (mj_u f 223 33 1) 223 31 x2) 223 32 (mj_u (mj_u f 223 33 1) 223 31 x2 223 28)), none) else some (w, f, none) := by
  show mj_run yM_must w f 0 [.inr (.inl 223), .inl x1, .inl x2] [] = _
  refine ms_iload_n (k := 1) (p' := 1) (by decide +kernel) rfl rfl ?_
  refine ms_if_ne (off := 10) (t := 11) (p' := 4) (by decide +kernel) rfl (fun hc => ?_) (fun hc => ?_)
  · exact ms_vret (by decide +kernel)
  · refine ms_aload_n (k := 0) (p' := 5) (by decide +kernel) rfl rfl ?_
    refine ms_geti (idx := 162) (ci := 9) (k := 33) (q := 1424) (p' := 8) (by decide +kernel) rfl (k_223 hw) ?_
    refine ms_if_eq (off := 4) (t := 12) (p' := 11) (by decide +kernel) rfl (fun hc => ?_) (fun hc => ?_)
    · refine ms_aload_n (k := 0) (p' := 13) (by decide +kernel) rfl rfl ?_
      refine ms_iconst (n := 1) (v := 1) (p' := 14) (by decide +kernel) rfl ?_
      refine Eq.trans (ms_putz (idx := 162) (ci := 9) (k := 33) (q := 1424) (p' := 17) (by decide +kernel) rfl (k_223 hw) (fun _ => ?_)) (mj_gd_pos (by decide) _)
      refine ms_aload_n (k := 0) (p' := 18) (by decide +kernel) rfl rfl ?_
      refine ms_iload_n (k := 2) (p' := 19) (by decide +kernel) rfl rfl ?_
      refine ms_puti (idx := 166) (ci := 9) (k := 31) (q := 1422) (p' := 22) (by decide +kernel) rfl (k_223 hw) ?_
      refine ms_aload_n (k := 0) (p' := 23) (by decide +kernel) rfl rfl ?_
      refine ms_aload_n (k := 0) (p' := 24) (by decide +kernel) rfl rfl ?_
      refine ms_geti (idx := 149) (ci := 9) (k := 28) (q := 1419) (p' := 27) (by decide +kernel) rfl (k_223 hw) ?_
      refine ms_puti (idx := 66) (ci := 9) (k := 32) (q := 1423) (p' := 30) (by decide +kernel) rfl (k_223 hw) ?_
      exact ms_vret (by decide +kernel)
    · exact ms_vret (by decide +kernel)
theorem c_M_opens {sw : Bool} {w : mj_W} (hw : wk sw w) (f : mj_F) (x1 : Int) (x2 : Int)  : mj_call yM_opens w f [.inr (.inl 223), .inl x1, .inl x2] = mj_bu (mj_call yM_must w f [.inr (.inl 223), .inl x1, .inl x2]) (fun f1 => if ¬ (f1 223 33) = 0 then some (w, f1, none) else mj_bu (mj_call yM_advance w f1 [.inr (.inl 223)]) (fun f2 => some (w, f2, none))) := by
  show mj_run yM_opens w f 0 [.inr (.inl 223), .inl x1, .inl x2] [] = _
  refine ms_aload_n (k := 0) (p' := 1) (by decide +kernel) rfl rfl ?_
  refine ms_iload_n (k := 1) (p' := 2) (by decide +kernel) rfl rfl ?_
  refine ms_iload_n (k := 2) (p' := 3) (by decide +kernel) rfl rfl ?_
  refine ms_virt_u (idx := 174) (cy := yM_must) (n := 2) (a := 223) (as := [.inl x1, .inl x2]) (rest := []) (p' := 6) (by decide +kernel) rfl rfl rfl rfl (k_223 hw) rfl (fun f1 => ?_)
  refine ms_aload_n (k := 0) (p' := 7) (by decide +kernel) rfl rfl ?_
  refine ms_geti (idx := 162) (ci := 9) (k := 33) (q := 1424) (p' := 10) (by decide +kernel) rfl (k_223 hw) ?_
  refine ms_if_ne (off := 7) (t := 17) (p' := 13) (by decide +kernel) rfl (fun hc => ?_) (fun hc => ?_)
  · exact ms_vret (by decide +kernel)
  · refine ms_aload_n (k := 0) (p' := 14) (by decide +kernel) rfl rfl ?_
    refine ms_virt_u (idx := 178) (cy := yM_advance) (n := 0) (a := 223) (as := []) (rest := []) (p' := 17) (by decide +kernel) rfl rfl rfl rfl (k_223 hw) rfl (fun f2 => ?_)
    exact ms_vret (by decide +kernel)
theorem c_M_isName {sw : Bool} {w : mj_W} (hw : wk sw w) (f : mj_F)   : mj_call yM_isName w f [.inr (.inl 223)] = if ¬ (f 223 29) = 1 then some (w, f, some (.inl 0)) else if (f 223 30) = 3554411 then some (w, f, some (.inl 0)) else if (f 223 30) = 17171557 then some (w, f, some (.inl 0)) else if (f 223 30) = 168165 then some (w, f, some (.inl 0)) else if (f 223 30) = 20579924 then some (w, f, some (.inl 0)) else if (f 223 30) = 762030 then some (w, f, some (.inl 0)) else if (f 223 30) = 19636 then some (w, f, some (.inl 0)) else some (w, f, some (.inl 1)) := by
  show mj_run yM_isName w f 0 [.inr (.inl 223)] [] = _
  refine ms_aload_n (k := 0) (p' := 1) (by decide +kernel) rfl rfl ?_
  refine ms_geti (idx := 155) (ci := 9) (k := 29) (q := 1420) (p' := 4) (by decide +kernel) rfl (k_223 hw) ?_
  refine ms_iconst (n := 1) (v := 1) (p' := 5) (by decide +kernel) rfl ?_
  refine ms_icmp_ne (off := 62) (t := 67) (p' := 8) (by decide +kernel) rfl (fun hc => ?_) (fun hc => ?_)
  · refine ms_iconst (n := 0) (v := 0) (p' := 68) (by decide +kernel) rfl ?_
    exact (ms_zret (by decide +kernel)).trans (mj_gd_pos (by decide) _)
  · refine ms_aload_n (k := 0) (p' := 9) (by decide +kernel) rfl rfl ?_
    refine ms_geti (idx := 152) (ci := 9) (k := 30) (q := 1421) (p' := 12) (by decide +kernel) rfl (k_223 hw) ?_
    refine ms_ldc (idx := 169) (v := 3554411) (p' := 14) (by decide +kernel) rfl ?_
    refine ms_icmp_eq (off := 53) (t := 67) (p' := 17) (by decide +kernel) rfl (fun hc => ?_) (fun hc => ?_)
    · refine ms_iconst (n := 0) (v := 0) (p' := 68) (by decide +kernel) rfl ?_
      exact (ms_zret (by decide +kernel)).trans (mj_gd_pos (by decide) _)
    · refine ms_aload_n (k := 0) (p' := 18) (by decide +kernel) rfl rfl ?_
      refine ms_geti (idx := 152) (ci := 9) (k := 30) (q := 1421) (p' := 21) (by decide +kernel) rfl (k_223 hw) ?_
      refine ms_ldc (idx := 170) (v := 17171557) (p' := 23) (by decide +kernel) rfl ?_
      refine ms_icmp_eq (off := 44) (t := 67) (p' := 26) (by decide +kernel) rfl (fun hc => ?_) (fun hc => ?_)
      · refine ms_iconst (n := 0) (v := 0) (p' := 68) (by decide +kernel) rfl ?_
        exact (ms_zret (by decide +kernel)).trans (mj_gd_pos (by decide) _)
      · refine ms_aload_n (k := 0) (p' := 27) (by decide +kernel) rfl rfl ?_
        refine ms_geti (idx := 152) (ci := 9) (k := 30) (q := 1421) (p' := 30) (by decide +kernel) rfl (k_223 hw) ?_
        refine ms_ldc (idx := 171) (v := 168165) (p' := 32) (by decide +kernel) rfl ?_
        refine ms_icmp_eq (off := 35) (t := 67) (p' := 35) (by decide +kernel) rfl (fun hc => ?_) (fun hc => ?_)
        · refine ms_iconst (n := 0) (v := 0) (p' := 68) (by decide +kernel) rfl ?_
          exact (ms_zret (by decide +kernel)).trans (mj_gd_pos (by decide) _)
        · refine ms_aload_n (k := 0) (p' := 36) (by decide +kernel) rfl rfl ?_
          refine ms_geti (idx := 152) (ci := 9) (k := 30) (q := 1421) (p' := 39) (by decide +kernel) rfl (k_223 hw) ?_
          refine ms_ldc (idx := 172) (v := 20579924) (p' := 41) (by decide +kernel) rfl ?_
          refine ms_icmp_eq (off := 26) (t := 67) (p' := 44) (by decide +kernel) rfl (fun hc => ?_) (fun hc => ?_)
          · refine ms_iconst (n := 0) (v := 0) (p' := 68) (by decide +kernel) rfl ?_
            exact (ms_zret (by decide +kernel)).trans (mj_gd_pos (by decide) _)
          · refine ms_aload_n (k := 0) (p' := 45) (by decide +kernel) rfl rfl ?_
            refine ms_geti (idx := 152) (ci := 9) (k := 30) (q := 1421) (p' := 48) (by decide +kernel) rfl (k_223 hw) ?_
            refine ms_ldc (idx := 173) (v := 762030) (p' := 50) (by decide +kernel) rfl ?_
            refine ms_icmp_eq (off := 17) (t := 67) (p' := 53) (by decide +kernel) rfl (fun hc => ?_) (fun hc => ?_)
            · refine ms_iconst (n := 0) (v := 0) (p' := 68) (by decide +kernel) rfl ?_
              exact (ms_zret (by decide +kernel)).trans (mj_gd_pos (by decide) _)
            · refine ms_aload_n (k := 0) (p' := 54) (by decide +kernel) rfl rfl ?_
              refine ms_geti (idx := 152) (ci := 9) (k := 30) (q := 1421) (p' := 57) (by decide +kernel) rfl (k_223 hw) ?_
              refine ms_sipush (n := 19636) (v := 19636) (p' := 60) (by decide +kernel) rfl ?_
              refine ms_icmp_eq (off := 7) (t := 67) (p' := 63) (by decide +kernel) rfl (fun hc => ?_) (fun hc => ?_)
              · refine ms_iconst (n := 0) (v := 0) (p' := 68) (by decide +kernel) rfl ?_
                exact (ms_zret (by decide +kernel)).trans (mj_gd_pos (by decide) _)
              · refine ms_iconst (n := 1) (v := 1) (p' := 64) (by decide +kernel) rfl ?_
                refine ms_goto (off := 4) (p' := 68) (by decide +kernel) ?_
                exact (ms_zret (by decide +kernel)).trans (mj_gd_pos (by decide) _)
theorem c_M_at {sw : Bool} {w : mj_W} (hw : wk sw w) (f : mj_F) (r0 nr0 : Nat) (x1 : Int) (x2 : Int) (hr0 : w.1 r0 = (100, nr0)) : mj_call yM_at w f [.inr (.inl r0), .inl x1, .inl x2] = mj_run yM_at w f 2 [.inr (.inl r0), .inl x1, .inl x2, .inl 0] [] := by
  show mj_run yM_at w f 0 [.inr (.inl r0), .inl x1, .inl x2, .inr (.inr (.inr 0))] [] = _
  refine ms_iconst (n := 0) (v := 0) (p' := 1) (by decide +kernel) rfl ?_
  refine ms_istore_n (k := 3) (ls' := [.inr (.inl r0), .inl x1, .inl x2, .inl 0]) (p' := 2) (by decide +kernel) rfl (Nat.le_of_ble_eq_true rfl) rfl ?_
  rfl
theorem l_M_at_2 {sw : Bool} {w : mj_W} (hw : wk sw w) (f : mj_F) (r0 nr0 : Nat) (x1 : Int) (x2 : Int) (x3 : Int) (hr0 : w.1 r0 = (100, nr0)) : mj_run yM_at w f 2 [.inr (.inl r0), .inl x1, .inl x2, .inl x3] [] = if x1 ≤ x3 then some (w, f, some (.inl (-1))) else mj_gd (0 ≤ x3 ∧ x3 < ((nr0 : Nat) : Int)) (if ¬ (f r0 x3.toNat) = x2 then mj_run yM_at w f 2 [.inr (.inl r0), .inl x1, .inl x2, .inl (mj_w (x3 + 1))] [] else some (w, f, some (.inl x3))) := by
  refine ms_iload_n (k := 3) (p' := 3) (by decide +kernel) rfl rfl ?_
  refine ms_iload_n (k := 1) (p' := 4) (by decide +kernel) rfl rfl ?_
  refine ms_icmp_ge (off := 18) (t := 22) (p' := 7) (by decide +kernel) rfl (fun hc => ?_) (fun hc => ?_)
  · refine ms_iconst (n := (-1)) (v := (-1)) (p' := 23) (by decide +kernel) rfl ?_
    exact ms_iret (by decide +kernel)
  · refine ms_aload_n (k := 0) (p' := 8) (by decide +kernel) rfl rfl ?_
    refine ms_iload_n (k := 3) (p' := 9) (by decide +kernel) rfl rfl ?_
    refine ms_iald (p' := 10) (by decide +kernel) rfl hr0 (fun hj1 => ?_)
    refine ms_iload_n (k := 2) (p' := 11) (by decide +kernel) rfl rfl ?_
    refine ms_icmp_ne (off := 5) (t := 16) (p' := 14) (by decide +kernel) rfl (fun hc => ?_) (fun hc => ?_)
    · refine ms_iinc (k := 3) (n := 1) (ls' := [.inr (.inl r0), .inl x1, .inl x2, .inl (mj_w (x3 + 1))]) (p' := 19) (by decide +kernel) rfl rfl rfl ?_
      refine ms_goto (off := (-17)) (p' := 2) (by decide +kernel) ?_
      rfl
    · refine ms_iload_n (k := 3) (p' := 15) (by decide +kernel) rfl rfl ?_
      exact ms_iret (by decide +kernel)
theorem c_M_freshHere {sw : Bool} {w : mj_W} (hw : wk sw w) (f : mj_F) (r1 nr1 : Nat) (x2 : Int) (hr1 : w.1 r1 = (100, nr1)) : mj_call yM_freshHere w f [.inr (.inl 223), .inr (.inl r1), .inl x2] = mj_bi (mj_call yM_isName w f [.inr (.inl 223)]) (fun f1 v2 => mj_bu (mj_call yM_must w f1 [.inr (.inl 223), .inl v2, .inl 1]) (fun f3 => mj_bi (mj_call yM_at w f3 [.inr (.inl r1), .inl x2, .inl (f3 223 30)]) (fun f4 v5 => if ¬ v5 = (-1) then mj_bu (mj_call yM_must w f4 [.inr (.inl 223), .inl 0, .inl 3]) (fun f6 => if ¬ (f6 223 33) = 0 then some (w, f6, some (.inl (f6 223 30))) else mj_bu (mj_call yM_advance w f6 [.inr (.inl 223)]) (fun f7 => some (w, f7, some (.inl (f6 223 30))))) else mj_bu (mj_call yM_must w f4 [.inr (.inl 223), .inl 1, .inl 3]) (fun f8 => if ¬ (f8 223 33) = 0 then some (w, f8, some (.inl (f8 223 30))) else mj_bu (mj_call yM_advance w f8 [.inr (.inl 223)]) (fun f9 => some (w, f9, some (.inl (f8 223 30)))))))) := by
  show mj_run yM_freshHere w f 0 [.inr (.inl 223), .inr (.inl r1), .inl x2, .inr (.inr (.inr 0))] [] = _
  refine ms_aload_n (k := 0) (p' := 1) (by decide +kernel) rfl rfl ?_
  refine ms_aload_n (k := 0) (p' := 2) (by decide +kernel) rfl rfl ?_
  refine ms_virt_i (idx := 181) (cy := yM_isName) (n := 0) (a := 223) (as := []) (rest := [.inr (.inl 223)]) (p' := 5) (by decide +kernel) rfl rfl rfl rfl (k_223 hw) rfl (fun f1 v2 => ?_)
  refine ms_iconst (n := 1) (v := 1) (p' := 6) (by decide +kernel) rfl ?_
  refine ms_virt_u (idx := 174) (cy := yM_must) (n := 2) (a := 223) (as := [.inl v2, .inl 1]) (rest := []) (p' := 9) (by decide +kernel) rfl rfl rfl rfl (k_223 hw) rfl (fun f3 => ?_)
  refine ms_aload_n (k := 0) (p' := 10) (by decide +kernel) rfl rfl ?_
  refine ms_aload_n (k := 1) (p' := 11) (by decide +kernel) rfl rfl ?_
  refine ms_iload_n (k := 2) (p' := 12) (by decide +kernel) rfl rfl ?_
  refine ms_aload_n (k := 0) (p' := 13) (by decide +kernel) rfl rfl ?_
  refine ms_geti (idx := 152) (ci := 9) (k := 30) (q := 1421) (p' := 16) (by decide +kernel) rfl (k_223 hw) ?_
  refine ms_stat_i (idx := 185) (cy := yM_at) (n := 3) (as := [.inr (.inl r1), .inl x2, .inl (f3 223 30)]) (rest := [.inr (.inl 223)]) (p' := 19) (by decide +kernel) rfl rfl rfl rfl rfl (fun f4 v5 => ?_)
  refine ms_iconst (n := (-1)) (v := (-1)) (p' := 20) (by decide +kernel) rfl ?_
  refine ms_icmp_ne (off := 7) (t := 27) (p' := 23) (by decide +kernel) rfl (fun hc => ?_) (fun hc => ?_)
  · refine ms_iconst (n := 0) (v := 0) (p' := 28) (by decide +kernel) rfl ?_
    refine ms_iconst (n := 3) (v := 3) (p' := 29) (by decide +kernel) rfl ?_
    refine ms_virt_u (idx := 174) (cy := yM_must) (n := 2) (a := 223) (as := [.inl 0, .inl 3]) (rest := []) (p' := 32) (by decide +kernel) rfl rfl rfl rfl (k_223 hw) rfl (fun f6 => ?_)
    refine ms_aload_n (k := 0) (p' := 33) (by decide +kernel) rfl rfl ?_
    refine ms_geti (idx := 152) (ci := 9) (k := 30) (q := 1421) (p' := 36) (by decide +kernel) rfl (k_223 hw) ?_
    refine ms_istore_n (k := 3) (ls' := [.inr (.inl 223), .inr (.inl r1), .inl x2, .inl (f6 223 30)]) (p' := 37) (by decide +kernel) rfl (Nat.le_of_ble_eq_true rfl) rfl ?_
    refine ms_aload_n (k := 0) (p' := 38) (by decide +kernel) rfl rfl ?_
    refine ms_geti (idx := 162) (ci := 9) (k := 33) (q := 1424) (p' := 41) (by decide +kernel) rfl (k_223 hw) ?_
    refine ms_if_ne (off := 7) (t := 48) (p' := 44) (by decide +kernel) rfl (fun hc => ?_) (fun hc => ?_)
    · refine ms_iload_n (k := 3) (p' := 49) (by decide +kernel) rfl rfl ?_
      exact ms_iret (by decide +kernel)
    · refine ms_aload_n (k := 0) (p' := 45) (by decide +kernel) rfl rfl ?_
      refine ms_virt_u (idx := 178) (cy := yM_advance) (n := 0) (a := 223) (as := []) (rest := []) (p' := 48) (by decide +kernel) rfl rfl rfl rfl (k_223 hw) rfl (fun f7 => ?_)
      refine ms_iload_n (k := 3) (p' := 49) (by decide +kernel) rfl rfl ?_
      exact ms_iret (by decide +kernel)
  · refine ms_iconst (n := 1) (v := 1) (p' := 24) (by decide +kernel) rfl ?_
    refine ms_goto (off := 4) (p' := 28) (by decide +kernel) ?_
    refine ms_iconst (n := 3) (v := 3) (p' := 29) (by decide +kernel) rfl ?_
    refine ms_virt_u (idx := 174) (cy := yM_must) (n := 2) (a := 223) (as := [.inl 1, .inl 3]) (rest := []) (p' := 32) (by decide +kernel) rfl rfl rfl rfl (k_223 hw) rfl (fun f8 => ?_)
    refine ms_aload_n (k := 0) (p' := 33) (by decide +kernel) rfl rfl ?_
    refine ms_geti (idx := 152) (ci := 9) (k := 30) (q := 1421) (p' := 36) (by decide +kernel) rfl (k_223 hw) ?_
    refine ms_istore_n (k := 3) (ls' := [.inr (.inl 223), .inr (.inl r1), .inl x2, .inl (f8 223 30)]) (p' := 37) (by decide +kernel) rfl (Nat.le_of_ble_eq_true rfl) rfl ?_
    refine ms_aload_n (k := 0) (p' := 38) (by decide +kernel) rfl rfl ?_
    refine ms_geti (idx := 162) (ci := 9) (k := 33) (q := 1424) (p' := 41) (by decide +kernel) rfl (k_223 hw) ?_
    refine ms_if_ne (off := 7) (t := 48) (p' := 44) (by decide +kernel) rfl (fun hc => ?_) (fun hc => ?_)
    · refine ms_iload_n (k := 3) (p' := 49) (by decide +kernel) rfl rfl ?_
      exact ms_iret (by decide +kernel)
    · refine ms_aload_n (k := 0) (p' := 45) (by decide +kernel) rfl rfl ?_
      refine ms_virt_u (idx := 178) (cy := yM_advance) (n := 0) (a := 223) (as := []) (rest := []) (p' := 48) (by decide +kernel) rfl rfl rfl rfl (k_223 hw) rfl (fun f9 => ?_)
      refine ms_iload_n (k := 3) (p' := 49) (by decide +kernel) rfl rfl ?_
      exact ms_iret (by decide +kernel)
theorem c_M_seenHere {sw : Bool} {w : mj_W} (hw : wk sw w) (f : mj_F) (r1 nr1 : Nat) (x2 : Int) (hr1 : w.1 r1 = (100, nr1)) : mj_call yM_seenHere w f [.inr (.inl 223), .inr (.inl r1), .inl x2] = mj_bi (mj_call yM_isName w f [.inr (.inl 223)]) (fun f1 v2 => if v2 = 0 then mj_bu (mj_call yM_must w f1 [.inr (.inl 223), .inl 0, .inl 1]) (fun f3 => mj_bi (mj_call yM_at w f3 [.inr (.inl r1), .inl x2, .inl (f3 223 30)]) (fun f4 v5 => some (w, f4, some (.inl v5)))) else mj_bi (mj_call yM_at w f1 [.inr (.inl r1), .inl x2, .inl (f1 223 30)]) (fun f6 v7 => if v7 = (-1) then mj_bu (mj_call yM_must w f6 [.inr (.inl 223), .inl 0, .inl 1]) (fun f8 => mj_bi (mj_call yM_at w f8 [.inr (.inl r1), .inl x2, .inl (f8 223 30)]) (fun f9 v10 => some (w, f9, some (.inl v10)))) else mj_bu (mj_call yM_must w f6 [.inr (.inl 223), .inl 1, .inl 1]) (fun f11 => mj_bi (mj_call yM_at w f11 [.inr (.inl r1), .inl x2, .inl (f11 223 30)]) (fun f12 v13 => some (w, f12, some (.inl v13)))))) := by
  show mj_run yM_seenHere w f 0 [.inr (.inl 223), .inr (.inl r1), .inl x2] [] = _
  refine ms_aload_n (k := 0) (p' := 1) (by decide +kernel) rfl rfl ?_
  refine ms_aload_n (k := 0) (p' := 2) (by decide +kernel) rfl rfl ?_
  refine ms_virt_i (idx := 181) (cy := yM_isName) (n := 0) (a := 223) (as := []) (rest := [.inr (.inl 223)]) (p' := 5) (by decide +kernel) rfl rfl rfl rfl (k_223 hw) rfl (fun f1 v2 => ?_)
  refine ms_if_eq (off := 20) (t := 25) (p' := 8) (by decide +kernel) rfl (fun hc => ?_) (fun hc => ?_)
  · refine ms_iconst (n := 0) (v := 0) (p' := 26) (by decide +kernel) rfl ?_
    refine ms_iconst (n := 1) (v := 1) (p' := 27) (by decide +kernel) rfl ?_
    refine ms_virt_u (idx := 174) (cy := yM_must) (n := 2) (a := 223) (as := [.inl 0, .inl 1]) (rest := []) (p' := 30) (by decide +kernel) rfl rfl rfl rfl (k_223 hw) rfl (fun f3 => ?_)
    refine ms_aload_n (k := 1) (p' := 31) (by decide +kernel) rfl rfl ?_
    refine ms_iload_n (k := 2) (p' := 32) (by decide +kernel) rfl rfl ?_
    refine ms_aload_n (k := 0) (p' := 33) (by decide +kernel) rfl rfl ?_
    refine ms_geti (idx := 152) (ci := 9) (k := 30) (q := 1421) (p' := 36) (by decide +kernel) rfl (k_223 hw) ?_
    refine ms_stat_i (idx := 185) (cy := yM_at) (n := 3) (as := [.inr (.inl r1), .inl x2, .inl (f3 223 30)]) (rest := []) (p' := 39) (by decide +kernel) rfl rfl rfl rfl rfl (fun f4 v5 => ?_)
    exact ms_iret (by decide +kernel)
  · refine ms_aload_n (k := 1) (p' := 9) (by decide +kernel) rfl rfl ?_
    refine ms_iload_n (k := 2) (p' := 10) (by decide +kernel) rfl rfl ?_
    refine ms_aload_n (k := 0) (p' := 11) (by decide +kernel) rfl rfl ?_
    refine ms_geti (idx := 152) (ci := 9) (k := 30) (q := 1421) (p' := 14) (by decide +kernel) rfl (k_223 hw) ?_
    refine ms_stat_i (idx := 185) (cy := yM_at) (n := 3) (as := [.inr (.inl r1), .inl x2, .inl (f1 223 30)]) (rest := [.inr (.inl 223)]) (p' := 17) (by decide +kernel) rfl rfl rfl rfl rfl (fun f6 v7 => ?_)
    refine ms_iconst (n := (-1)) (v := (-1)) (p' := 18) (by decide +kernel) rfl ?_
    refine ms_icmp_eq (off := 7) (t := 25) (p' := 21) (by decide +kernel) rfl (fun hc => ?_) (fun hc => ?_)
    · refine ms_iconst (n := 0) (v := 0) (p' := 26) (by decide +kernel) rfl ?_
      refine ms_iconst (n := 1) (v := 1) (p' := 27) (by decide +kernel) rfl ?_
      refine ms_virt_u (idx := 174) (cy := yM_must) (n := 2) (a := 223) (as := [.inl 0, .inl 1]) (rest := []) (p' := 30) (by decide +kernel) rfl rfl rfl rfl (k_223 hw) rfl (fun f8 => ?_)
      refine ms_aload_n (k := 1) (p' := 31) (by decide +kernel) rfl rfl ?_
      refine ms_iload_n (k := 2) (p' := 32) (by decide +kernel) rfl rfl ?_
      refine ms_aload_n (k := 0) (p' := 33) (by decide +kernel) rfl rfl ?_
      refine ms_geti (idx := 152) (ci := 9) (k := 30) (q := 1421) (p' := 36) (by decide +kernel) rfl (k_223 hw) ?_
      refine ms_stat_i (idx := 185) (cy := yM_at) (n := 3) (as := [.inr (.inl r1), .inl x2, .inl (f8 223 30)]) (rest := []) (p' := 39) (by decide +kernel) rfl rfl rfl rfl rfl (fun f9 v10 => ?_)
      exact ms_iret (by decide +kernel)
    · refine ms_iconst (n := 1) (v := 1) (p' := 22) (by decide +kernel) rfl ?_
      refine ms_goto (off := 4) (p' := 26) (by decide +kernel) ?_
      refine ms_iconst (n := 1) (v := 1) (p' := 27) (by decide +kernel) rfl ?_
      refine ms_virt_u (idx := 174) (cy := yM_must) (n := 2) (a := 223) (as := [.inl 1, .inl 1]) (rest := []) (p' := 30) (by decide +kernel) rfl rfl rfl rfl (k_223 hw) rfl (fun f11 => ?_)
      refine ms_aload_n (k := 1) (p' := 31) (by decide +kernel) rfl rfl ?_
      refine ms_iload_n (k := 2) (p' := 32) (by decide +kernel) rfl rfl ?_
      refine ms_aload_n (k := 0) (p' := 33) (by decide +kernel) rfl rfl ?_
      refine ms_geti (idx := 152) (ci := 9) (k := 30) (q := 1421) (p' := 36) (by decide +kernel) rfl (k_223 hw) ?_
      refine ms_stat_i (idx := 185) (cy := yM_at) (n := 3) (as := [.inr (.inl r1), .inl x2, .inl (f11 223 30)]) (rest := []) (p' := 39) (by decide +kernel) rfl rfl rfl rfl rfl (fun f12 v13 => ?_)
      exact ms_iret (by decide +kernel)
theorem c_M_numberHere {sw : Bool} {w : mj_W} (hw : wk sw w) (f : mj_F)   : mj_call yM_numberHere w f [.inr (.inl 223)] = if ¬ (f 223 29) = 2 then mj_bu (mj_call yM_must w f [.inr (.inl 223), .inl 0, .inl 1]) (fun f1 => if 50 < (f1 223 30) then mj_bu (mj_call yM_must w f1 [.inr (.inl 223), .inl 0, .inl 2]) (fun f2 => if ¬ (f2 223 33) = 0 then some (w, f2, some (.inl (f2 223 30))) else mj_bu (mj_call yM_advance w f2 [.inr (.inl 223)]) (fun f3 => some (w, f3, some (.inl (f2 223 30))))) else mj_bu (mj_call yM_must w f1 [.inr (.inl 223), .inl 1, .inl 2]) (fun f4 => if ¬ (f4 223 33) = 0 then some (w, f4, some (.inl (f4 223 30))) else mj_bu (mj_call yM_advance w f4 [.inr (.inl 223)]) (fun f5 => some (w, f5, some (.inl (f4 223 30)))))) else mj_bu (mj_call yM_must w f [.inr (.inl 223), .inl 1, .inl 1]) (fun f6 => if 50 < (f6 223 30) then mj_bu (mj_call yM_must w f6 [.inr (.inl 223), .inl 0, .inl 2]) (fun f7 => if ¬ (f7 223 33) = 0 then some (w, f7, some (.inl (f7 223 30))) else mj_bu (mj_call yM_advance w f7 [.inr (.inl 223)]) (fun f8 => some (w, f8, some (.inl (f7 223 30))))) else mj_bu (mj_call yM_must w f6 [.inr (.inl 223), .inl 1, .inl 2]) (fun f9 => if ¬ (f9 223 33) = 0 then some (w, f9, some (.inl (f9 223 30))) else mj_bu (mj_call yM_advance w f9 [.inr (.inl 223)]) (fun f10 => some (w, f10, some (.inl (f9 223 30)))))) := by
  show mj_run yM_numberHere w f 0 [.inr (.inl 223), .inr (.inr (.inr 0))] [] = _
  refine ms_aload_n (k := 0) (p' := 1) (by decide +kernel) rfl rfl ?_
  refine ms_aload_n (k := 0) (p' := 2) (by decide +kernel) rfl rfl ?_
  refine ms_geti (idx := 155) (ci := 9) (k := 29) (q := 1420) (p' := 5) (by decide +kernel) rfl (k_223 hw) ?_
  refine ms_iconst (n := 2) (v := 2) (p' := 6) (by decide +kernel) rfl ?_
  refine ms_icmp_ne (off := 7) (t := 13) (p' := 9) (by decide +kernel) rfl (fun hc => ?_) (fun hc => ?_)
  · refine ms_iconst (n := 0) (v := 0) (p' := 14) (by decide +kernel) rfl ?_
    refine ms_iconst (n := 1) (v := 1) (p' := 15) (by decide +kernel) rfl ?_
    refine ms_virt_u (idx := 174) (cy := yM_must) (n := 2) (a := 223) (as := [.inl 0, .inl 1]) (rest := []) (p' := 18) (by decide +kernel) rfl rfl rfl rfl (k_223 hw) rfl (fun f1 => ?_)
    refine ms_aload_n (k := 0) (p' := 19) (by decide +kernel) rfl rfl ?_
    refine ms_aload_n (k := 0) (p' := 20) (by decide +kernel) rfl rfl ?_
    refine ms_geti (idx := 152) (ci := 9) (k := 30) (q := 1421) (p' := 23) (by decide +kernel) rfl (k_223 hw) ?_
    refine ms_bipush (n := 50) (v := 50) (p' := 25) (by decide +kernel) rfl ?_
    refine ms_icmp_gt (off := 7) (t := 32) (p' := 28) (by decide +kernel) rfl (fun hc => ?_) (fun hc => ?_)
    · refine ms_iconst (n := 0) (v := 0) (p' := 33) (by decide +kernel) rfl ?_
      refine ms_iconst (n := 2) (v := 2) (p' := 34) (by decide +kernel) rfl ?_
      refine ms_virt_u (idx := 174) (cy := yM_must) (n := 2) (a := 223) (as := [.inl 0, .inl 2]) (rest := []) (p' := 37) (by decide +kernel) rfl rfl rfl rfl (k_223 hw) rfl (fun f2 => ?_)
      refine ms_aload_n (k := 0) (p' := 38) (by decide +kernel) rfl rfl ?_
      refine ms_geti (idx := 152) (ci := 9) (k := 30) (q := 1421) (p' := 41) (by decide +kernel) rfl (k_223 hw) ?_
      refine ms_istore_n (k := 1) (ls' := [.inr (.inl 223), .inl (f2 223 30)]) (p' := 42) (by decide +kernel) rfl (Nat.le_of_ble_eq_true rfl) rfl ?_
      refine ms_aload_n (k := 0) (p' := 43) (by decide +kernel) rfl rfl ?_
      refine ms_geti (idx := 162) (ci := 9) (k := 33) (q := 1424) (p' := 46) (by decide +kernel) rfl (k_223 hw) ?_
      refine ms_if_ne (off := 7) (t := 53) (p' := 49) (by decide +kernel) rfl (fun hc => ?_) (fun hc => ?_)
      · refine ms_iload_n (k := 1) (p' := 54) (by decide +kernel) rfl rfl ?_
        exact ms_iret (by decide +kernel)
      · refine ms_aload_n (k := 0) (p' := 50) (by decide +kernel) rfl rfl ?_
        refine ms_virt_u (idx := 178) (cy := yM_advance) (n := 0) (a := 223) (as := []) (rest := []) (p' := 53) (by decide +kernel) rfl rfl rfl rfl (k_223 hw) rfl (fun f3 => ?_)
        refine ms_iload_n (k := 1) (p' := 54) (by decide +kernel) rfl rfl ?_
        exact ms_iret (by decide +kernel)
    · refine ms_iconst (n := 1) (v := 1) (p' := 29) (by decide +kernel) rfl ?_
      refine ms_goto (off := 4) (p' := 33) (by decide +kernel) ?_
      refine ms_iconst (n := 2) (v := 2) (p' := 34) (by decide +kernel) rfl ?_
      refine ms_virt_u (idx := 174) (cy := yM_must) (n := 2) (a := 223) (as := [.inl 1, .inl 2]) (rest := []) (p' := 37) (by decide +kernel) rfl rfl rfl rfl (k_223 hw) rfl (fun f4 => ?_)
      refine ms_aload_n (k := 0) (p' := 38) (by decide +kernel) rfl rfl ?_
      refine ms_geti (idx := 152) (ci := 9) (k := 30) (q := 1421) (p' := 41) (by decide +kernel) rfl (k_223 hw) ?_
      refine ms_istore_n (k := 1) (ls' := [.inr (.inl 223), .inl (f4 223 30)]) (p' := 42) (by decide +kernel) rfl (Nat.le_of_ble_eq_true rfl) rfl ?_
      refine ms_aload_n (k := 0) (p' := 43) (by decide +kernel) rfl rfl ?_
      refine ms_geti (idx := 162) (ci := 9) (k := 33) (q := 1424) (p' := 46) (by decide +kernel) rfl (k_223 hw) ?_
      refine ms_if_ne (off := 7) (t := 53) (p' := 49) (by decide +kernel) rfl (fun hc => ?_) (fun hc => ?_)
      · refine ms_iload_n (k := 1) (p' := 54) (by decide +kernel) rfl rfl ?_
        exact ms_iret (by decide +kernel)
      · refine ms_aload_n (k := 0) (p' := 50) (by decide +kernel) rfl rfl ?_
        refine ms_virt_u (idx := 178) (cy := yM_advance) (n := 0) (a := 223) (as := []) (rest := []) (p' := 53) (by decide +kernel) rfl rfl rfl rfl (k_223 hw) rfl (fun f5 => ?_)
        refine ms_iload_n (k := 1) (p' := 54) (by decide +kernel) rfl rfl ?_
        exact ms_iret (by decide +kernel)
  · refine ms_iconst (n := 1) (v := 1) (p' := 10) (by decide +kernel) rfl ?_
    refine ms_goto (off := 4) (p' := 14) (by decide +kernel) ?_
    refine ms_iconst (n := 1) (v := 1) (p' := 15) (by decide +kernel) rfl ?_
    refine ms_virt_u (idx := 174) (cy := yM_must) (n := 2) (a := 223) (as := [.inl 1, .inl 1]) (rest := []) (p' := 18) (by decide +kernel) rfl rfl rfl rfl (k_223 hw) rfl (fun f6 => ?_)
    refine ms_aload_n (k := 0) (p' := 19) (by decide +kernel) rfl rfl ?_
    refine ms_aload_n (k := 0) (p' := 20) (by decide +kernel) rfl rfl ?_
    refine ms_geti (idx := 152) (ci := 9) (k := 30) (q := 1421) (p' := 23) (by decide +kernel) rfl (k_223 hw) ?_
    refine ms_bipush (n := 50) (v := 50) (p' := 25) (by decide +kernel) rfl ?_
    refine ms_icmp_gt (off := 7) (t := 32) (p' := 28) (by decide +kernel) rfl (fun hc => ?_) (fun hc => ?_)
    · refine ms_iconst (n := 0) (v := 0) (p' := 33) (by decide +kernel) rfl ?_
      refine ms_iconst (n := 2) (v := 2) (p' := 34) (by decide +kernel) rfl ?_
      refine ms_virt_u (idx := 174) (cy := yM_must) (n := 2) (a := 223) (as := [.inl 0, .inl 2]) (rest := []) (p' := 37) (by decide +kernel) rfl rfl rfl rfl (k_223 hw) rfl (fun f7 => ?_)
      refine ms_aload_n (k := 0) (p' := 38) (by decide +kernel) rfl rfl ?_
      refine ms_geti (idx := 152) (ci := 9) (k := 30) (q := 1421) (p' := 41) (by decide +kernel) rfl (k_223 hw) ?_
      refine ms_istore_n (k := 1) (ls' := [.inr (.inl 223), .inl (f7 223 30)]) (p' := 42) (by decide +kernel) rfl (Nat.le_of_ble_eq_true rfl) rfl ?_
      refine ms_aload_n (k := 0) (p' := 43) (by decide +kernel) rfl rfl ?_
      refine ms_geti (idx := 162) (ci := 9) (k := 33) (q := 1424) (p' := 46) (by decide +kernel) rfl (k_223 hw) ?_
      refine ms_if_ne (off := 7) (t := 53) (p' := 49) (by decide +kernel) rfl (fun hc => ?_) (fun hc => ?_)
      · refine ms_iload_n (k := 1) (p' := 54) (by decide +kernel) rfl rfl ?_
        exact ms_iret (by decide +kernel)
      · refine ms_aload_n (k := 0) (p' := 50) (by decide +kernel) rfl rfl ?_
        refine ms_virt_u (idx := 178) (cy := yM_advance) (n := 0) (a := 223) (as := []) (rest := []) (p' := 53) (by decide +kernel) rfl rfl rfl rfl (k_223 hw) rfl (fun f8 => ?_)
        refine ms_iload_n (k := 1) (p' := 54) (by decide +kernel) rfl rfl ?_
        exact ms_iret (by decide +kernel)
    · refine ms_iconst (n := 1) (v := 1) (p' := 29) (by decide +kernel) rfl ?_
      refine ms_goto (off := 4) (p' := 33) (by decide +kernel) ?_
      refine ms_iconst (n := 2) (v := 2) (p' := 34) (by decide +kernel) rfl ?_
      refine ms_virt_u (idx := 174) (cy := yM_must) (n := 2) (a := 223) (as := [.inl 1, .inl 2]) (rest := []) (p' := 37) (by decide +kernel) rfl rfl rfl rfl (k_223 hw) rfl (fun f9 => ?_)
      refine ms_aload_n (k := 0) (p' := 38) (by decide +kernel) rfl rfl ?_
      refine ms_geti (idx := 152) (ci := 9) (k := 30) (q := 1421) (p' := 41) (by decide +kernel) rfl (k_223 hw) ?_
      refine ms_istore_n (k := 1) (ls' := [.inr (.inl 223), .inl (f9 223 30)]) (p' := 42) (by decide +kernel) rfl (Nat.le_of_ble_eq_true rfl) rfl ?_
      refine ms_aload_n (k := 0) (p' := 43) (by decide +kernel) rfl rfl ?_
      refine ms_geti (idx := 162) (ci := 9) (k := 33) (q := 1424) (p' := 46) (by decide +kernel) rfl (k_223 hw) ?_
      refine ms_if_ne (off := 7) (t := 53) (p' := 49) (by decide +kernel) rfl (fun hc => ?_) (fun hc => ?_)
      · refine ms_iload_n (k := 1) (p' := 54) (by decide +kernel) rfl rfl ?_
        exact ms_iret (by decide +kernel)
      · refine ms_aload_n (k := 0) (p' := 50) (by decide +kernel) rfl rfl ?_
        refine ms_virt_u (idx := 178) (cy := yM_advance) (n := 0) (a := 223) (as := []) (rest := []) (p' := 53) (by decide +kernel) rfl rfl rfl rfl (k_223 hw) rfl (fun f10 => ?_)
        refine ms_iload_n (k := 1) (p' := 54) (by decide +kernel) rfl rfl ?_
        exact ms_iret (by decide +kernel)
theorem c_M_whensHere {sw : Bool} {w : mj_W} (hw : wk sw w) (f : mj_F) (x1 : Int)  : mj_call yM_whensHere w f [.inr (.inl 223), .inl x1] = mj_gd (0 ≤ x1 ∧ x1 < ((24 : Nat) : Int)) (mj_run yM_whensHere w (mj_u f 243 x1.toNat 0) 7 [.inr (.inl 223), .inl x1, .inr (.inr (.inr 0)), .inr (.inr (.inr 0)), .inr (.inr (.inr 0)), .inr (.inr (.inr 0))] []) := by
  show mj_run yM_whensHere w f 0 [.inr (.inl 223), .inl x1, .inr (.inr (.inr 0)), .inr (.inr (.inr 0)), .inr (.inr (.inr 0)), .inr (.inr (.inr 0))] [] = _
  refine ms_aload_n (k := 0) (p' := 1) (by decide +kernel) rfl rfl ?_
  refine ms_getr (idx := 75) (ci := 9) (k := 42) (q := 1433) (p' := 4) (by decide +kernel) rfl (k_223 hw) (r_223_42 hw) (by decide) ?_
  refine ms_iload_n (k := 1) (p' := 5) (by decide +kernel) rfl rfl ?_
  refine ms_iconst (n := 0) (v := 0) (p' := 6) (by decide +kernel) rfl ?_
  refine ms_iast (p' := 7) (by decide +kernel) rfl (k_243 hw) (fun hj1 => ?_)
  rfl
theorem l_M_whensHere_7 {sw : Bool} {w : mj_W} (hw : wk sw w) (f : mj_F) (x1 : Int) (u2 : mj_V) (u3 : mj_V) (u4 : mj_V) (u5 : mj_V)  : mj_run yM_whensHere w f 7 [.inr (.inl 223), .inl x1, u2, u3, u4, u5] [] = mj_bi (mj_call yM_isWord w f [.inr (.inl 223), .inl 762030]) (fun f2 v3 => if v3 = 0 then some (w, f2, none) else mj_gd (0 ≤ x1 ∧ x1 < ((24 : Nat) : Int)) (if 6 ≤ (f2 243 x1.toNat) then mj_run yM_whensHere w f2 33 [.inr (.inl 223), .inl x1, u2, u3, u4, u5] [.inl 0, .inr (.inl 223)] else mj_run yM_whensHere w f2 33 [.inr (.inl 223), .inl x1, u2, u3, u4, u5] [.inl 1, .inr (.inl 223)])) := by
  refine ms_aload_n (k := 0) (p' := 8) (by decide +kernel) rfl rfl ?_
  refine ms_ldc (idx := 173) (v := 762030) (p' := 10) (by decide +kernel) rfl ?_
  refine ms_virt_i (idx := 196) (cy := yM_isWord) (n := 1) (a := 223) (as := [.inl 762030]) (rest := []) (p' := 13) (by decide +kernel) rfl rfl rfl rfl (k_223 hw) rfl (fun f2 v3 => ?_)
  refine ms_if_eq (off := 147) (t := 160) (p' := 16) (by decide +kernel) rfl (fun hc => ?_) (fun hc => ?_)
  · exact ms_vret (by decide +kernel)
  · refine ms_aload_n (k := 0) (p' := 17) (by decide +kernel) rfl rfl ?_
    refine ms_aload_n (k := 0) (p' := 18) (by decide +kernel) rfl rfl ?_
    refine ms_getr (idx := 75) (ci := 9) (k := 42) (q := 1433) (p' := 21) (by decide +kernel) rfl (k_223 hw) (r_223_42 hw) (by decide) ?_
    refine ms_iload_n (k := 1) (p' := 22) (by decide +kernel) rfl rfl ?_
    refine ms_iald (p' := 23) (by decide +kernel) rfl (k_243 hw) (fun hj4 => ?_)
    refine ms_bipush (n := 6) (v := 6) (p' := 25) (by decide +kernel) rfl ?_
    refine ms_icmp_ge (off := 7) (t := 32) (p' := 28) (by decide +kernel) rfl (fun hc => ?_) (fun hc => ?_)
    · refine ms_iconst (n := 0) (v := 0) (p' := 33) (by decide +kernel) rfl ?_
      rfl
    · refine ms_iconst (n := 1) (v := 1) (p' := 29) (by decide +kernel) rfl ?_
      refine ms_goto (off := 4) (p' := 33) (by decide +kernel) ?_
      rfl
theorem l_M_whensHere_33 {sw : Bool} {w : mj_W} (hw : wk sw w) (f : mj_F) (x1 : Int) (u2 : mj_V) (u3 : mj_V) (u4 : mj_V) (u5 : mj_V) (xs1 : Int)  : mj_run yM_whensHere w f 33 [.inr (.inl 223), .inl x1, u2, u3, u4, u5] [.inl xs1, .inr (.inl 223)] = mj_bu (mj_call yM_opens w f [.inr (.inl 223), .inl xs1, .inl 2]) (fun f5 => mj_bi (mj_call yM_seenHere w f5 [.inr (.inl 223), .inr (.inl 241), .inl (f5 223 36)]) (fun f6 v7 => if ¬ (f6 223 33) = 0 then mj_run yM_whensHere w f6 61 [.inr (.inl 223), .inl x1, .inl v7, u3, u4, u5] [] else mj_bu (mj_call yM_advance w f6 [.inr (.inl 223)]) (fun f8 => mj_run yM_whensHere w f8 61 [.inr (.inl 223), .inl x1, .inl v7, u3, u4, u5] []))) := by
  refine ms_iconst (n := 2) (v := 2) (p' := 34) (by decide +kernel) rfl ?_
  refine ms_virt_u (idx := 200) (cy := yM_opens) (n := 2) (a := 223) (as := [.inl xs1, .inl 2]) (rest := []) (p' := 37) (by decide +kernel) rfl rfl rfl rfl (k_223 hw) rfl (fun f5 => ?_)
  refine ms_aload_n (k := 0) (p' := 38) (by decide +kernel) rfl rfl ?_
  refine ms_aload_n (k := 0) (p' := 39) (by decide +kernel) rfl rfl ?_
  refine ms_getr (idx := 69) (ci := 9) (k := 34) (q := 1425) (p' := 42) (by decide +kernel) rfl (k_223 hw) (r_223_34 hw) (by decide) ?_
  refine ms_aload_n (k := 0) (p' := 43) (by decide +kernel) rfl rfl ?_
  refine ms_geti (idx := 203) (ci := 9) (k := 36) (q := 1427) (p' := 46) (by decide +kernel) rfl (k_223 hw) ?_
  refine ms_virt_i (idx := 192) (cy := yM_seenHere) (n := 2) (a := 223) (as := [.inr (.inl 241), .inl (f5 223 36)]) (rest := []) (p' := 49) (by decide +kernel) rfl rfl rfl rfl (k_223 hw) rfl (fun f6 v7 => ?_)
  refine ms_istore_n (k := 2) (ls' := [.inr (.inl 223), .inl x1, .inl v7, u3, u4, u5]) (p' := 50) (by decide +kernel) rfl (Nat.le_of_ble_eq_true rfl) rfl ?_
  refine ms_aload_n (k := 0) (p' := 51) (by decide +kernel) rfl rfl ?_
  refine ms_geti (idx := 162) (ci := 9) (k := 33) (q := 1424) (p' := 54) (by decide +kernel) rfl (k_223 hw) ?_
  refine ms_if_ne (off := 7) (t := 61) (p' := 57) (by decide +kernel) rfl (fun hc => ?_) (fun hc => ?_)
  · rfl
  · refine ms_aload_n (k := 0) (p' := 58) (by decide +kernel) rfl rfl ?_
    refine ms_virt_u (idx := 178) (cy := yM_advance) (n := 0) (a := 223) (as := []) (rest := []) (p' := 61) (by decide +kernel) rfl rfl rfl rfl (k_223 hw) rfl (fun f8 => ?_)
    rfl
theorem l_M_whensHere_61 {sw : Bool} {w : mj_W} (hw : wk sw w) (f : mj_F) (x1 : Int) (x2 : Int) (u3 : mj_V) (u4 : mj_V) (u5 : mj_V)  : mj_run yM_whensHere w f 61 [.inr (.inl 223), .inl x1, .inl x2, u3, u4, u5] [] = if ¬ (f 223 29) = 4 then mj_run yM_whensHere w f 75 [.inr (.inl 223), .inl x1, .inl x2, u3, u4, u5] [.inl 0, .inr (.inl 223)] else mj_run yM_whensHere w f 75 [.inr (.inl 223), .inl x1, .inl x2, u3, u4, u5] [.inl 1, .inr (.inl 223)] := by
  refine ms_aload_n (k := 0) (p' := 62) (by decide +kernel) rfl rfl ?_
  refine ms_aload_n (k := 0) (p' := 63) (by decide +kernel) rfl rfl ?_
  refine ms_geti (idx := 155) (ci := 9) (k := 29) (q := 1420) (p' := 66) (by decide +kernel) rfl (k_223 hw) ?_
  refine ms_iconst (n := 4) (v := 4) (p' := 67) (by decide +kernel) rfl ?_
  refine ms_icmp_ne (off := 7) (t := 74) (p' := 70) (by decide +kernel) rfl (fun hc => ?_) (fun hc => ?_)
  · refine ms_iconst (n := 0) (v := 0) (p' := 75) (by decide +kernel) rfl ?_
    rfl
  · refine ms_iconst (n := 1) (v := 1) (p' := 71) (by decide +kernel) rfl ?_
    refine ms_goto (off := 4) (p' := 75) (by decide +kernel) ?_
    rfl
theorem l_M_whensHere_75 {sw : Bool} {w : mj_W} (hw : wk sw w) (f : mj_F) (x1 : Int) (x2 : Int) (u3 : mj_V) (u4 : mj_V) (u5 : mj_V) (xs1 : Int)  : mj_run yM_whensHere w f 75 [.inr (.inl 223), .inl x1, .inl x2, u3, u4, u5] [.inl xs1, .inr (.inl 223)] = mj_bu (mj_call yM_must w f [.inr (.inl 223), .inl xs1, .inl 1]) (fun f9 => if ¬ (f9 223 33) = 0 then mj_run yM_whensHere w f9 95 [.inr (.inl 223), .inl x1, .inl x2, .inl (f9 223 30), u4, u5] [] else mj_bu (mj_call yM_advance w f9 [.inr (.inl 223)]) (fun f10 => mj_run yM_whensHere w f10 95 [.inr (.inl 223), .inl x1, .inl x2, .inl (f9 223 30), u4, u5] [])) := by
  refine ms_iconst (n := 1) (v := 1) (p' := 76) (by decide +kernel) rfl ?_
  refine ms_virt_u (idx := 174) (cy := yM_must) (n := 2) (a := 223) (as := [.inl xs1, .inl 1]) (rest := []) (p' := 79) (by decide +kernel) rfl rfl rfl rfl (k_223 hw) rfl (fun f9 => ?_)
  refine ms_aload_n (k := 0) (p' := 80) (by decide +kernel) rfl rfl ?_
  refine ms_geti (idx := 152) (ci := 9) (k := 30) (q := 1421) (p' := 83) (by decide +kernel) rfl (k_223 hw) ?_
  refine ms_istore_n (k := 3) (ls' := [.inr (.inl 223), .inl x1, .inl x2, .inl (f9 223 30), u4, u5]) (p' := 84) (by decide +kernel) rfl (Nat.le_of_ble_eq_true rfl) rfl ?_
  refine ms_aload_n (k := 0) (p' := 85) (by decide +kernel) rfl rfl ?_
  refine ms_geti (idx := 162) (ci := 9) (k := 33) (q := 1424) (p' := 88) (by decide +kernel) rfl (k_223 hw) ?_
  refine ms_if_ne (off := 7) (t := 95) (p' := 91) (by decide +kernel) rfl (fun hc => ?_) (fun hc => ?_)
  · rfl
  · refine ms_aload_n (k := 0) (p' := 92) (by decide +kernel) rfl rfl ?_
    refine ms_virt_u (idx := 178) (cy := yM_advance) (n := 0) (a := 223) (as := []) (rest := []) (p' := 95) (by decide +kernel) rfl rfl rfl rfl (k_223 hw) rfl (fun f10 => ?_)
    rfl
theorem l_M_whensHere_95 {sw : Bool} {w : mj_W} (hw : wk sw w) (f : mj_F) (x1 : Int) (x2 : Int) (x3 : Int) (u4 : mj_V) (u5 : mj_V)  : mj_run yM_whensHere w f 95 [.inr (.inl 223), .inl x1, .inl x2, .inl x3, u4, u5] [] = mj_bi (mj_call yM_numberHere w f [.inr (.inl 223)]) (fun f11 v12 => if (f11 223 33) = 0 then mj_gd (0 ≤ x1 ∧ x1 < ((24 : Nat) : Int)) (mj_gd (0 ≤ (mj_w ((mj_w (6 * x1)) + (f11 243 x1.toNat))) ∧ (mj_w ((mj_w (6 * x1)) + (f11 243 x1.toNat))) < ((144 : Nat) : Int)) (mj_gd (0 ≤ (mj_w ((mj_w (6 * x1)) + (f11 243 x1.toNat))) ∧ (mj_w ((mj_w (6 * x1)) + (f11 243 x1.toNat))) < ((144 : Nat) : Int)) (mj_gd (0 ≤ (mj_w ((mj_w (6 * x1)) + (f11 243 x1.toNat))) ∧ (mj_w ((mj_w (6 * x1)) + (f11 243 x1.toNat))) < ((144 : Nat) : Int)) (mj_gd (0 ≤ x1 ∧ x1 < ((24 : Nat) : Int)) (mj_gd (0 ≤ x1 ∧ x1 < ((24 : Nat) : Int)) (mj_run yM_whensHere w (mj_u (mj_u (mj_u (mj_u f11 244 (mj_w ((mj_w (6 * x1)) + (f11 243 x1.toNat))).toNat x2) 245 (mj_w ((mj_w (6 * x1)) + (f11 243 x1.toNat))).toNat x3) 246 (mj_w ((mj_w (6 * x1)) + (f11 243 x1.toNat))).toNat v12) 243 x1.toNat (mj_w (((mj_u (mj_u (mj_u f11 244 (mj_w ((mj_w (6 * x1)) + (f11 243 x1.toNat))).toNat x2) 245 (mj_w ((mj_w (6 * x1)) + (f11 243 x1.toNat))).toNat x3) 246 (mj_w ((mj_w (6 * x1)) + (f11 243 x1.toNat))).toNat v12) 243 x1.toNat) + 1))) 7 [.inr (.inl 223), .inl x1, .inl x2, .inl x3, .inl v12, .inl (mj_w ((mj_w (6 * x1)) + (f11 243 x1.toNat)))] [])))))) else some (w, f11, none)) := by
  refine ms_aload_n (k := 0) (p' := 96) (by decide +kernel) rfl rfl ?_
  refine ms_virt_i (idx := 206) (cy := yM_numberHere) (n := 0) (a := 223) (as := []) (rest := []) (p' := 99) (by decide +kernel) rfl rfl rfl rfl (k_223 hw) rfl (fun f11 v12 => ?_)
  refine ms_istore (k := 4) (ls' := [.inr (.inl 223), .inl x1, .inl x2, .inl x3, .inl v12, u5]) (p' := 101) (by decide +kernel) rfl (Nat.le_of_ble_eq_true rfl) rfl ?_
  refine ms_aload_n (k := 0) (p' := 102) (by decide +kernel) rfl rfl ?_
  refine ms_geti (idx := 162) (ci := 9) (k := 33) (q := 1424) (p' := 105) (by decide +kernel) rfl (k_223 hw) ?_
  refine ms_if_eq (off := 4) (t := 109) (p' := 108) (by decide +kernel) rfl (fun hc => ?_) (fun hc => ?_)
  · refine ms_bipush (n := 6) (v := 6) (p' := 111) (by decide +kernel) rfl ?_
    refine ms_iload_n (k := 1) (p' := 112) (by decide +kernel) rfl rfl ?_
    refine ms_imul (p' := 113) (by decide +kernel) rfl ?_
    refine ms_aload_n (k := 0) (p' := 114) (by decide +kernel) rfl rfl ?_
    refine ms_getr (idx := 75) (ci := 9) (k := 42) (q := 1433) (p' := 117) (by decide +kernel) rfl (k_223 hw) (r_223_42 hw) (by decide) ?_
    refine ms_iload_n (k := 1) (p' := 118) (by decide +kernel) rfl rfl ?_
    refine ms_iald (p' := 119) (by decide +kernel) rfl (k_243 hw) (fun hj13 => ?_)
    refine ms_iadd (p' := 120) (by decide +kernel) rfl ?_
    refine ms_istore (k := 5) (ls' := [.inr (.inl 223), .inl x1, .inl x2, .inl x3, .inl v12, .inl (mj_w ((mj_w (6 * x1)) + (f11 243 x1.toNat)))]) (p' := 122) (by decide +kernel) rfl (Nat.le_of_ble_eq_true rfl) rfl ?_
    refine ms_aload_n (k := 0) (p' := 123) (by decide +kernel) rfl rfl ?_
    refine ms_getr (idx := 78) (ci := 9) (k := 43) (q := 1434) (p' := 126) (by decide +kernel) rfl (k_223 hw) (r_223_43 hw) (by decide) ?_
    refine ms_iload (k := 5) (p' := 128) (by decide +kernel) rfl rfl ?_
    refine ms_iload_n (k := 2) (p' := 129) (by decide +kernel) rfl rfl ?_
    refine ms_iast (p' := 130) (by decide +kernel) rfl (k_244 hw) (fun hj14 => ?_)
    refine ms_aload_n (k := 0) (p' := 131) (by decide +kernel) rfl rfl ?_
    refine ms_getr (idx := 81) (ci := 9) (k := 44) (q := 1435) (p' := 134) (by decide +kernel) rfl (k_223 hw) (r_223_44 hw) (by decide) ?_
    refine ms_iload (k := 5) (p' := 136) (by decide +kernel) rfl rfl ?_
    refine ms_iload_n (k := 3) (p' := 137) (by decide +kernel) rfl rfl ?_
    refine ms_iast (p' := 138) (by decide +kernel) rfl (k_245 hw) (fun hj15 => ?_)
    refine ms_aload_n (k := 0) (p' := 139) (by decide +kernel) rfl rfl ?_
    refine ms_getr (idx := 84) (ci := 9) (k := 45) (q := 1436) (p' := 142) (by decide +kernel) rfl (k_223 hw) (r_223_45 hw) (by decide) ?_
    refine ms_iload (k := 5) (p' := 144) (by decide +kernel) rfl rfl ?_
    refine ms_iload (k := 4) (p' := 146) (by decide +kernel) rfl rfl ?_
    refine ms_iast (p' := 147) (by decide +kernel) rfl (k_246 hw) (fun hj16 => ?_)
    refine ms_aload_n (k := 0) (p' := 148) (by decide +kernel) rfl rfl ?_
    refine ms_getr (idx := 75) (ci := 9) (k := 42) (q := 1433) (p' := 151) (by decide +kernel) rfl (k_223 hw) (r_223_42 hw) (by decide) ?_
    refine ms_iload_n (k := 1) (p' := 152) (by decide +kernel) rfl rfl ?_
    refine ms_dup2 (p' := 153) (by decide +kernel) rfl ?_
    refine ms_iald (p' := 154) (by decide +kernel) rfl (k_243 hw) (fun hj17 => ?_)
    refine ms_iconst (n := 1) (v := 1) (p' := 155) (by decide +kernel) rfl ?_
    refine ms_iadd (p' := 156) (by decide +kernel) rfl ?_
    refine ms_iast (p' := 157) (by decide +kernel) rfl (k_243 hw) (fun hj18 => ?_)
    refine ms_goto (off := (-150)) (p' := 7) (by decide +kernel) ?_
    rfl
  · exact ms_vret (by decide +kernel)
theorem c_M_placeHere {sw : Bool} {w : mj_W} (hw : wk sw w) (f : mj_F)   : mj_call yM_placeHere w f [.inr (.inl 223)] = mj_bi (mj_call yM_seenHere w f [.inr (.inl 223), .inr (.inl 242), .inl (f 223 37)]) (fun f1 v2 => if ¬ (f1 223 33) = 0 then some (w, f1, some (.inl v2)) else mj_bu (mj_call yM_advance w f1 [.inr (.inl 223)]) (fun f3 => some (w, f3, some (.inl v2)))) := by
  show mj_run yM_placeHere w f 0 [.inr (.inl 223), .inr (.inr (.inr 0))] [] = _
  refine ms_aload_n (k := 0) (p' := 1) (by decide +kernel) rfl rfl ?_
  refine ms_aload_n (k := 0) (p' := 2) (by decide +kernel) rfl rfl ?_
  refine ms_getr (idx := 72) (ci := 9) (k := 35) (q := 1426) (p' := 5) (by decide +kernel) rfl (k_223 hw) (r_223_35 hw) (by decide) ?_
  refine ms_aload_n (k := 0) (p' := 6) (by decide +kernel) rfl rfl ?_
  refine ms_geti (idx := 189) (ci := 9) (k := 37) (q := 1428) (p' := 9) (by decide +kernel) rfl (k_223 hw) ?_
  refine ms_virt_i (idx := 192) (cy := yM_seenHere) (n := 2) (a := 223) (as := [.inr (.inl 242), .inl (f 223 37)]) (rest := []) (p' := 12) (by decide +kernel) rfl rfl rfl rfl (k_223 hw) rfl (fun f1 v2 => ?_)
  refine ms_istore_n (k := 1) (ls' := [.inr (.inl 223), .inl v2]) (p' := 13) (by decide +kernel) rfl (Nat.le_of_ble_eq_true rfl) rfl ?_
  refine ms_aload_n (k := 0) (p' := 14) (by decide +kernel) rfl rfl ?_
  refine ms_geti (idx := 162) (ci := 9) (k := 33) (q := 1424) (p' := 17) (by decide +kernel) rfl (k_223 hw) ?_
  refine ms_if_ne (off := 7) (t := 24) (p' := 20) (by decide +kernel) rfl (fun hc => ?_) (fun hc => ?_)
  · refine ms_iload_n (k := 1) (p' := 25) (by decide +kernel) rfl rfl ?_
    exact ms_iret (by decide +kernel)
  · refine ms_aload_n (k := 0) (p' := 21) (by decide +kernel) rfl rfl ?_
    refine ms_virt_u (idx := 178) (cy := yM_advance) (n := 0) (a := 223) (as := []) (rest := []) (p' := 24) (by decide +kernel) rfl rfl rfl rfl (k_223 hw) rfl (fun f3 => ?_)
    refine ms_iload_n (k := 1) (p' := 25) (by decide +kernel) rfl rfl ?_
    exact ms_iret (by decide +kernel)
theorem c_M_setsHere {sw : Bool} {w : mj_W} (hw : wk sw w) (f : mj_F) (x1 : Int)  : mj_call yM_setsHere w f [.inr (.inl 223), .inl x1] = mj_gd (0 ≤ x1 ∧ x1 < ((16 : Nat) : Int)) (mj_run yM_setsHere w (mj_u f 249 x1.toNat 0) 9 [.inr (.inl 223), .inl x1, .inl 0, .inr (.inr (.inr 0)), .inr (.inr (.inr 0))] []) := by
  show mj_run yM_setsHere w f 0 [.inr (.inl 223), .inl x1, .inr (.inr (.inr 0)), .inr (.inr (.inr 0)), .inr (.inr (.inr 0))] [] = _
  refine ms_aload_n (k := 0) (p' := 1) (by decide +kernel) rfl rfl ?_
  refine ms_getr (idx := 93) (ci := 9) (k := 48) (q := 1439) (p' := 4) (by decide +kernel) rfl (k_223 hw) (r_223_48 hw) (by decide) ?_
  refine ms_iload_n (k := 1) (p' := 5) (by decide +kernel) rfl rfl ?_
  refine ms_iconst (n := 0) (v := 0) (p' := 6) (by decide +kernel) rfl ?_
  refine ms_iast (p' := 7) (by decide +kernel) rfl (k_249 hw) (fun hj1 => ?_)
  refine ms_iconst (n := 0) (v := 0) (p' := 8) (by decide +kernel) rfl ?_
  refine ms_istore_n (k := 2) (ls' := [.inr (.inl 223), .inl x1, .inl 0, .inr (.inr (.inr 0)), .inr (.inr (.inr 0))]) (p' := 9) (by decide +kernel) rfl (Nat.le_of_ble_eq_true rfl) rfl ?_
  rfl
theorem l_M_setsHere_9 {sw : Bool} {w : mj_W} (hw : wk sw w) (f : mj_F) (x1 : Int) (x2 : Int) (u3 : mj_V) (u4 : mj_V)  : mj_run yM_setsHere w f 9 [.inr (.inl 223), .inl x1, .inl x2, u3, u4] [] = mj_bi (mj_call yM_isWord w f [.inr (.inl 223), .inl 19636]) (fun f2 v3 => if v3 = 0 then some (w, f2, none) else mj_gd (0 ≤ x1 ∧ x1 < ((16 : Nat) : Int)) (if 4 ≤ (f2 249 x1.toNat) then mj_run yM_setsHere w f2 35 [.inr (.inl 223), .inl x1, .inl x2, u3, u4] [.inl 0, .inr (.inl 223)] else mj_run yM_setsHere w f2 35 [.inr (.inl 223), .inl x1, .inl x2, u3, u4] [.inl 1, .inr (.inl 223)])) := by
  refine ms_aload_n (k := 0) (p' := 10) (by decide +kernel) rfl rfl ?_
  refine ms_sipush (n := 19636) (v := 19636) (p' := 13) (by decide +kernel) rfl ?_
  refine ms_virt_i (idx := 196) (cy := yM_isWord) (n := 1) (a := 223) (as := [.inl 19636]) (rest := []) (p' := 16) (by decide +kernel) rfl rfl rfl rfl (k_223 hw) rfl (fun f2 v3 => ?_)
  refine ms_if_eq (off := 138) (t := 154) (p' := 19) (by decide +kernel) rfl (fun hc => ?_) (fun hc => ?_)
  · exact ms_vret (by decide +kernel)
  · refine ms_aload_n (k := 0) (p' := 20) (by decide +kernel) rfl rfl ?_
    refine ms_aload_n (k := 0) (p' := 21) (by decide +kernel) rfl rfl ?_
    refine ms_getr (idx := 93) (ci := 9) (k := 48) (q := 1439) (p' := 24) (by decide +kernel) rfl (k_223 hw) (r_223_48 hw) (by decide) ?_
    refine ms_iload_n (k := 1) (p' := 25) (by decide +kernel) rfl rfl ?_
    refine ms_iald (p' := 26) (by decide +kernel) rfl (k_249 hw) (fun hj4 => ?_)
    refine ms_iconst (n := 4) (v := 4) (p' := 27) (by decide +kernel) rfl ?_
    refine ms_icmp_ge (off := 7) (t := 34) (p' := 30) (by decide +kernel) rfl (fun hc => ?_) (fun hc => ?_)
    · refine ms_iconst (n := 0) (v := 0) (p' := 35) (by decide +kernel) rfl ?_
      rfl
    · refine ms_iconst (n := 1) (v := 1) (p' := 31) (by decide +kernel) rfl ?_
      refine ms_goto (off := 4) (p' := 35) (by decide +kernel) ?_
      rfl
theorem l_M_setsHere_35 {sw : Bool} {w : mj_W} (hw : wk sw w) (f : mj_F) (x1 : Int) (x2 : Int) (u3 : mj_V) (u4 : mj_V) (xs1 : Int)  : mj_run yM_setsHere w f 35 [.inr (.inl 223), .inl x1, .inl x2, u3, u4] [.inl xs1, .inr (.inl 223)] = mj_bu (mj_call yM_opens w f [.inr (.inl 223), .inl xs1, .inl 2]) (fun f5 => mj_bi (mj_call yM_seenHere w f5 [.inr (.inl 223), .inr (.inl 241), .inl (f5 223 36)]) (fun f6 v7 => if ¬ (f6 223 33) = 0 then mj_run yM_setsHere w f6 68 [.inr (.inl 223), .inl x1, .inl x2, .inl v7, u4] [.inr (.inl 223)] else if ¬ (mj_and (mj_shr x2 v7) 1) = 0 then mj_run yM_setsHere w f6 73 [.inr (.inl 223), .inl x1, .inl x2, .inl v7, u4] [.inl 0, .inr (.inl 223)] else mj_run yM_setsHere w f6 68 [.inr (.inl 223), .inl x1, .inl x2, .inl v7, u4] [.inr (.inl 223)])) := by
  refine ms_iconst (n := 2) (v := 2) (p' := 36) (by decide +kernel) rfl ?_
  refine ms_virt_u (idx := 200) (cy := yM_opens) (n := 2) (a := 223) (as := [.inl xs1, .inl 2]) (rest := []) (p' := 39) (by decide +kernel) rfl rfl rfl rfl (k_223 hw) rfl (fun f5 => ?_)
  refine ms_aload_n (k := 0) (p' := 40) (by decide +kernel) rfl rfl ?_
  refine ms_aload_n (k := 0) (p' := 41) (by decide +kernel) rfl rfl ?_
  refine ms_getr (idx := 69) (ci := 9) (k := 34) (q := 1425) (p' := 44) (by decide +kernel) rfl (k_223 hw) (r_223_34 hw) (by decide) ?_
  refine ms_aload_n (k := 0) (p' := 45) (by decide +kernel) rfl rfl ?_
  refine ms_geti (idx := 203) (ci := 9) (k := 36) (q := 1427) (p' := 48) (by decide +kernel) rfl (k_223 hw) ?_
  refine ms_virt_i (idx := 192) (cy := yM_seenHere) (n := 2) (a := 223) (as := [.inr (.inl 241), .inl (f5 223 36)]) (rest := []) (p' := 51) (by decide +kernel) rfl rfl rfl rfl (k_223 hw) rfl (fun f6 v7 => ?_)
  refine ms_istore_n (k := 3) (ls' := [.inr (.inl 223), .inl x1, .inl x2, .inl v7, u4]) (p' := 52) (by decide +kernel) rfl (Nat.le_of_ble_eq_true rfl) rfl ?_
  refine ms_aload_n (k := 0) (p' := 53) (by decide +kernel) rfl rfl ?_
  refine ms_aload_n (k := 0) (p' := 54) (by decide +kernel) rfl rfl ?_
  refine ms_geti (idx := 162) (ci := 9) (k := 33) (q := 1424) (p' := 57) (by decide +kernel) rfl (k_223 hw) ?_
  refine ms_if_ne (off := 11) (t := 68) (p' := 60) (by decide +kernel) rfl (fun hc => ?_) (fun hc => ?_)
  · rfl
  · refine ms_iload_n (k := 2) (p' := 61) (by decide +kernel) rfl rfl ?_
    refine ms_iload_n (k := 3) (p' := 62) (by decide +kernel) rfl rfl ?_
    refine ms_ishr (p' := 63) (by decide +kernel) rfl ?_
    refine ms_iconst (n := 1) (v := 1) (p' := 64) (by decide +kernel) rfl ?_
    refine ms_iand (p' := 65) (by decide +kernel) rfl ?_
    refine ms_if_ne (off := 7) (t := 72) (p' := 68) (by decide +kernel) rfl (fun hc => ?_) (fun hc => ?_)
    · refine ms_iconst (n := 0) (v := 0) (p' := 73) (by decide +kernel) rfl ?_
      rfl
    · rfl
theorem l_M_setsHere_68 {sw : Bool} {w : mj_W} (hw : wk sw w) (f : mj_F) (x1 : Int) (x2 : Int) (x3 : Int) (u4 : mj_V)  : mj_run yM_setsHere w f 68 [.inr (.inl 223), .inl x1, .inl x2, .inl x3, u4] [.inr (.inl 223)] = mj_run yM_setsHere w f 73 [.inr (.inl 223), .inl x1, .inl x2, .inl x3, u4] [.inl 1, .inr (.inl 223)] := by
  refine ms_iconst (n := 1) (v := 1) (p' := 69) (by decide +kernel) rfl ?_
  refine ms_goto (off := 4) (p' := 73) (by decide +kernel) ?_
  rfl
theorem l_M_setsHere_73 {sw : Bool} {w : mj_W} (hw : wk sw w) (f : mj_F) (x1 : Int) (x2 : Int) (x3 : Int) (u4 : mj_V) (xs1 : Int)  : mj_run yM_setsHere w f 73 [.inr (.inl 223), .inl x1, .inl x2, .inl x3, u4] [.inl xs1, .inr (.inl 223)] = mj_bu (mj_call yM_must w f [.inr (.inl 223), .inl xs1, .inl 3]) (fun f8 => if ¬ (f8 223 33) = 0 then mj_run yM_setsHere w f8 88 [.inr (.inl 223), .inl x1, .inl x2, .inl x3, u4] [] else mj_bu (mj_call yM_advance w f8 [.inr (.inl 223)]) (fun f9 => mj_run yM_setsHere w f9 88 [.inr (.inl 223), .inl x1, .inl x2, .inl x3, u4] [])) := by
  refine ms_iconst (n := 3) (v := 3) (p' := 74) (by decide +kernel) rfl ?_
  refine ms_virt_u (idx := 174) (cy := yM_must) (n := 2) (a := 223) (as := [.inl xs1, .inl 3]) (rest := []) (p' := 77) (by decide +kernel) rfl rfl rfl rfl (k_223 hw) rfl (fun f8 => ?_)
  refine ms_aload_n (k := 0) (p' := 78) (by decide +kernel) rfl rfl ?_
  refine ms_geti (idx := 162) (ci := 9) (k := 33) (q := 1424) (p' := 81) (by decide +kernel) rfl (k_223 hw) ?_
  refine ms_if_ne (off := 7) (t := 88) (p' := 84) (by decide +kernel) rfl (fun hc => ?_) (fun hc => ?_)
  · rfl
  · refine ms_aload_n (k := 0) (p' := 85) (by decide +kernel) rfl rfl ?_
    refine ms_virt_u (idx := 178) (cy := yM_advance) (n := 0) (a := 223) (as := []) (rest := []) (p' := 88) (by decide +kernel) rfl rfl rfl rfl (k_223 hw) rfl (fun f9 => ?_)
    rfl
theorem l_M_setsHere_88 {sw : Bool} {w : mj_W} (hw : wk sw w) (f : mj_F) (x1 : Int) (x2 : Int) (x3 : Int) (u4 : mj_V)  : mj_run yM_setsHere w f 88 [.inr (.inl 223), .inl x1, .inl x2, .inl x3, u4] [] = mj_bi (mj_call yM_numberHere w f [.inr (.inl 223)]) (fun f10 v11 => if (f10 223 33) = 0 then mj_gd (0 ≤ x1 ∧ x1 < ((16 : Nat) : Int)) (mj_gd (0 ≤ (mj_w ((mj_w (4 * x1)) + (f10 249 x1.toNat))) ∧ (mj_w ((mj_w (4 * x1)) + (f10 249 x1.toNat))) < ((64 : Nat) : Int)) (mj_gd (0 ≤ x1 ∧ x1 < ((16 : Nat) : Int)) (mj_gd (0 ≤ (mj_w ((mj_w (4 * x1)) + ((mj_u f10 250 (mj_w ((mj_w (4 * x1)) + (f10 249 x1.toNat))).toNat x3) 249 x1.toNat))) ∧ (mj_w ((mj_w (4 * x1)) + ((mj_u f10 250 (mj_w ((mj_w (4 * x1)) + (f10 249 x1.toNat))).toNat x3) 249 x1.toNat))) < ((64 : Nat) : Int)) (mj_gd (0 ≤ x1 ∧ x1 < ((16 : Nat) : Int)) (mj_gd (0 ≤ x1 ∧ x1 < ((16 : Nat) : Int)) (mj_run yM_setsHere w (mj_u (mj_u (mj_u f10 250 (mj_w ((mj_w (4 * x1)) + (f10 249 x1.toNat))).toNat x3) 251 (mj_w ((mj_w (4 * x1)) + ((mj_u f10 250 (mj_w ((mj_w (4 * x1)) + (f10 249 x1.toNat))).toNat x3) 249 x1.toNat))).toNat v11) 249 x1.toNat (mj_w (((mj_u (mj_u f10 250 (mj_w ((mj_w (4 * x1)) + (f10 249 x1.toNat))).toNat x3) 251 (mj_w ((mj_w (4 * x1)) + ((mj_u f10 250 (mj_w ((mj_w (4 * x1)) + (f10 249 x1.toNat))).toNat x3) 249 x1.toNat))).toNat v11) 249 x1.toNat) + 1))) 9 [.inr (.inl 223), .inl x1, .inl (mj_or x2 (mj_shl 1 x3)), .inl x3, .inl v11] [])))))) else some (w, f10, none)) := by
  refine ms_aload_n (k := 0) (p' := 89) (by decide +kernel) rfl rfl ?_
  refine ms_virt_i (idx := 206) (cy := yM_numberHere) (n := 0) (a := 223) (as := []) (rest := []) (p' := 92) (by decide +kernel) rfl rfl rfl rfl (k_223 hw) rfl (fun f10 v11 => ?_)
  refine ms_istore (k := 4) (ls' := [.inr (.inl 223), .inl x1, .inl x2, .inl x3, .inl v11]) (p' := 94) (by decide +kernel) rfl (Nat.le_of_ble_eq_true rfl) rfl ?_
  refine ms_aload_n (k := 0) (p' := 95) (by decide +kernel) rfl rfl ?_
  refine ms_geti (idx := 162) (ci := 9) (k := 33) (q := 1424) (p' := 98) (by decide +kernel) rfl (k_223 hw) ?_
  refine ms_if_eq (off := 4) (t := 102) (p' := 101) (by decide +kernel) rfl (fun hc => ?_) (fun hc => ?_)
  · refine ms_iload_n (k := 2) (p' := 103) (by decide +kernel) rfl rfl ?_
    refine ms_iconst (n := 1) (v := 1) (p' := 104) (by decide +kernel) rfl ?_
    refine ms_iload_n (k := 3) (p' := 105) (by decide +kernel) rfl rfl ?_
    refine ms_ishl (p' := 106) (by decide +kernel) rfl ?_
    refine ms_ior (p' := 107) (by decide +kernel) rfl ?_
    refine ms_istore_n (k := 2) (ls' := [.inr (.inl 223), .inl x1, .inl (mj_or x2 (mj_shl 1 x3)), .inl x3, .inl v11]) (p' := 108) (by decide +kernel) rfl (Nat.le_of_ble_eq_true rfl) rfl ?_
    refine ms_aload_n (k := 0) (p' := 109) (by decide +kernel) rfl rfl ?_
    refine ms_getr (idx := 96) (ci := 9) (k := 49) (q := 1440) (p' := 112) (by decide +kernel) rfl (k_223 hw) (r_223_49 hw) (by decide) ?_
    refine ms_iconst (n := 4) (v := 4) (p' := 113) (by decide +kernel) rfl ?_
    refine ms_iload_n (k := 1) (p' := 114) (by decide +kernel) rfl rfl ?_
    refine ms_imul (p' := 115) (by decide +kernel) rfl ?_
    refine ms_aload_n (k := 0) (p' := 116) (by decide +kernel) rfl rfl ?_
    refine ms_getr (idx := 93) (ci := 9) (k := 48) (q := 1439) (p' := 119) (by decide +kernel) rfl (k_223 hw) (r_223_48 hw) (by decide) ?_
    refine ms_iload_n (k := 1) (p' := 120) (by decide +kernel) rfl rfl ?_
    refine ms_iald (p' := 121) (by decide +kernel) rfl (k_249 hw) (fun hj12 => ?_)
    refine ms_iadd (p' := 122) (by decide +kernel) rfl ?_
    refine ms_iload_n (k := 3) (p' := 123) (by decide +kernel) rfl rfl ?_
    refine ms_iast (p' := 124) (by decide +kernel) rfl (k_250 hw) (fun hj13 => ?_)
    refine ms_aload_n (k := 0) (p' := 125) (by decide +kernel) rfl rfl ?_
    refine ms_getr (idx := 99) (ci := 9) (k := 50) (q := 1441) (p' := 128) (by decide +kernel) rfl (k_223 hw) (r_223_50 hw) (by decide) ?_
    refine ms_iconst (n := 4) (v := 4) (p' := 129) (by decide +kernel) rfl ?_
    refine ms_iload_n (k := 1) (p' := 130) (by decide +kernel) rfl rfl ?_
    refine ms_imul (p' := 131) (by decide +kernel) rfl ?_
    refine ms_aload_n (k := 0) (p' := 132) (by decide +kernel) rfl rfl ?_
    refine ms_getr (idx := 93) (ci := 9) (k := 48) (q := 1439) (p' := 135) (by decide +kernel) rfl (k_223 hw) (r_223_48 hw) (by decide) ?_
    refine ms_iload_n (k := 1) (p' := 136) (by decide +kernel) rfl rfl ?_
    refine ms_iald (p' := 137) (by decide +kernel) rfl (k_249 hw) (fun hj14 => ?_)
    refine ms_iadd (p' := 138) (by decide +kernel) rfl ?_
    refine ms_iload (k := 4) (p' := 140) (by decide +kernel) rfl rfl ?_
    refine ms_iast (p' := 141) (by decide +kernel) rfl (k_251 hw) (fun hj15 => ?_)
    refine ms_aload_n (k := 0) (p' := 142) (by decide +kernel) rfl rfl ?_
    refine ms_getr (idx := 93) (ci := 9) (k := 48) (q := 1439) (p' := 145) (by decide +kernel) rfl (k_223 hw) (r_223_48 hw) (by decide) ?_
    refine ms_iload_n (k := 1) (p' := 146) (by decide +kernel) rfl rfl ?_
    refine ms_dup2 (p' := 147) (by decide +kernel) rfl ?_
    refine ms_iald (p' := 148) (by decide +kernel) rfl (k_249 hw) (fun hj16 => ?_)
    refine ms_iconst (n := 1) (v := 1) (p' := 149) (by decide +kernel) rfl ?_
    refine ms_iadd (p' := 150) (by decide +kernel) rfl ?_
    refine ms_iast (p' := 151) (by decide +kernel) rfl (k_249 hw) (fun hj17 => ?_)
    refine ms_goto (off := (-142)) (p' := 9) (by decide +kernel) ?_
    rfl
  · exact ms_vret (by decide +kernel)
theorem c_M_lineHere {sw : Bool} {w : mj_W} (hw : wk sw w) (f : mj_F)   : mj_call yM_lineHere w f [.inr (.inl 223)] = mj_bi (mj_call yM_isWord w f [.inr (.inl 223), .inl 3554411]) (fun f1 v2 => if v2 = 0 then mj_bi (mj_call yM_isWord w f1 [.inr (.inl 223), .inl 17171557]) (fun f3 v4 => if v4 = 0 then mj_bi (mj_call yM_isWord w f3 [.inr (.inl 223), .inl 168165]) (fun f5 v6 => if v6 = 0 then mj_bi (mj_call yM_isWord w f5 [.inr (.inl 223), .inl 20579924]) (fun f7 v8 => mj_bu (mj_call yM_must w f7 [.inr (.inl 223), .inl v8, .inl 1]) (fun f9 => if (f9 223 33) = 0 then if ¬ (f9 223 40) = 0 then mj_run yM_lineHere w f9 295 [.inr (.inl 223), .inr (.inr (.inr 0)), .inr (.inr (.inr 0))] [.inl 0, .inr (.inl 223)] else mj_run yM_lineHere w f9 295 [.inr (.inl 223), .inr (.inr (.inr 0)), .inr (.inr (.inr 0))] [.inl 1, .inr (.inl 223)] else some (w, f9, none))) else if 16 ≤ (f5 223 38) then mj_run yM_lineHere w f5 182 [.inr (.inl 223), .inr (.inr (.inr 0)), .inr (.inr (.inr 0))] [.inl 0, .inr (.inl 223)] else mj_run yM_lineHere w f5 182 [.inr (.inl 223), .inr (.inr (.inr 0)), .inr (.inr (.inr 0))] [.inl 1, .inr (.inl 223)]) else if 8 ≤ (f3 223 37) then mj_run yM_lineHere w f3 95 [.inr (.inl 223), .inr (.inr (.inr 0)), .inr (.inr (.inr 0))] [.inl 0, .inr (.inl 223)] else mj_run yM_lineHere w f3 95 [.inr (.inl 223), .inr (.inr (.inr 0)), .inr (.inr (.inr 0))] [.inl 1, .inr (.inl 223)]) else if 4 ≤ (f1 223 36) then mj_run yM_lineHere w f1 23 [.inr (.inl 223), .inr (.inr (.inr 0)), .inr (.inr (.inr 0))] [.inl 0, .inr (.inl 223)] else mj_run yM_lineHere w f1 23 [.inr (.inl 223), .inr (.inr (.inr 0)), .inr (.inr (.inr 0))] [.inl 1, .inr (.inl 223)]) := by
  show mj_run yM_lineHere w f 0 [.inr (.inl 223), .inr (.inr (.inr 0)), .inr (.inr (.inr 0))] [] = _
  refine ms_aload_n (k := 0) (p' := 1) (by decide +kernel) rfl rfl ?_
  refine ms_ldc (idx := 169) (v := 3554411) (p' := 3) (by decide +kernel) rfl ?_
  refine ms_virt_i (idx := 196) (cy := yM_isWord) (n := 1) (a := 223) (as := [.inl 3554411]) (rest := []) (p' := 6) (by decide +kernel) rfl rfl rfl rfl (k_223 hw) rfl (fun f1 v2 => ?_)
  refine ms_if_eq (off := 65) (t := 71) (p' := 9) (by decide +kernel) rfl (fun hc => ?_) (fun hc => ?_)
  · refine ms_aload_n (k := 0) (p' := 72) (by decide +kernel) rfl rfl ?_
    refine ms_ldc (idx := 170) (v := 17171557) (p' := 74) (by decide +kernel) rfl ?_
    refine ms_virt_i (idx := 196) (cy := yM_isWord) (n := 1) (a := 223) (as := [.inl 17171557]) (rest := []) (p' := 77) (by decide +kernel) rfl rfl rfl rfl (k_223 hw) rfl (fun f3 v4 => ?_)
    refine ms_if_eq (off := 81) (t := 158) (p' := 80) (by decide +kernel) rfl (fun hc => ?_) (fun hc => ?_)
    · refine ms_aload_n (k := 0) (p' := 159) (by decide +kernel) rfl rfl ?_
      refine ms_ldc (idx := 171) (v := 168165) (p' := 161) (by decide +kernel) rfl ?_
      refine ms_virt_i (idx := 196) (cy := yM_isWord) (n := 1) (a := 223) (as := [.inl 168165]) (rest := []) (p' := 164) (by decide +kernel) rfl rfl rfl rfl (k_223 hw) rfl (fun f5 v6 => ?_)
      refine ms_if_eq (off := 99) (t := 263) (p' := 167) (by decide +kernel) rfl (fun hc => ?_) (fun hc => ?_)
      · refine ms_aload_n (k := 0) (p' := 264) (by decide +kernel) rfl rfl ?_
        refine ms_aload_n (k := 0) (p' := 265) (by decide +kernel) rfl rfl ?_
        refine ms_ldc (idx := 172) (v := 20579924) (p' := 267) (by decide +kernel) rfl ?_
        refine ms_virt_i (idx := 196) (cy := yM_isWord) (n := 1) (a := 223) (as := [.inl 20579924]) (rest := [.inr (.inl 223)]) (p' := 270) (by decide +kernel) rfl rfl rfl rfl (k_223 hw) rfl (fun f7 v8 => ?_)
        refine ms_iconst (n := 1) (v := 1) (p' := 271) (by decide +kernel) rfl ?_
        refine ms_virt_u (idx := 174) (cy := yM_must) (n := 2) (a := 223) (as := [.inl v8, .inl 1]) (rest := []) (p' := 274) (by decide +kernel) rfl rfl rfl rfl (k_223 hw) rfl (fun f9 => ?_)
        refine ms_aload_n (k := 0) (p' := 275) (by decide +kernel) rfl rfl ?_
        refine ms_geti (idx := 162) (ci := 9) (k := 33) (q := 1424) (p' := 278) (by decide +kernel) rfl (k_223 hw) ?_
        refine ms_if_eq (off := 4) (t := 282) (p' := 281) (by decide +kernel) rfl (fun hc => ?_) (fun hc => ?_)
        · refine ms_aload_n (k := 0) (p' := 283) (by decide +kernel) rfl rfl ?_
          refine ms_aload_n (k := 0) (p' := 284) (by decide +kernel) rfl rfl ?_
          refine ms_geti (idx := 224) (ci := 9) (k := 40) (q := 1431) (p' := 287) (by decide +kernel) rfl (k_223 hw) ?_
          refine ms_if_ne (off := 7) (t := 294) (p' := 290) (by decide +kernel) rfl (fun hc => ?_) (fun hc => ?_)
          · refine ms_iconst (n := 0) (v := 0) (p' := 295) (by decide +kernel) rfl ?_
            rfl
          · refine ms_iconst (n := 1) (v := 1) (p' := 291) (by decide +kernel) rfl ?_
            refine ms_goto (off := 4) (p' := 295) (by decide +kernel) ?_
            rfl
        · exact ms_vret (by decide +kernel)
      · refine ms_aload_n (k := 0) (p' := 168) (by decide +kernel) rfl rfl ?_
        refine ms_aload_n (k := 0) (p' := 169) (by decide +kernel) rfl rfl ?_
        refine ms_geti (idx := 215) (ci := 9) (k := 38) (q := 1429) (p' := 172) (by decide +kernel) rfl (k_223 hw) ?_
        refine ms_bipush (n := 16) (v := 16) (p' := 174) (by decide +kernel) rfl ?_
        refine ms_icmp_ge (off := 7) (t := 181) (p' := 177) (by decide +kernel) rfl (fun hc => ?_) (fun hc => ?_)
        · refine ms_iconst (n := 0) (v := 0) (p' := 182) (by decide +kernel) rfl ?_
          rfl
        · refine ms_iconst (n := 1) (v := 1) (p' := 178) (by decide +kernel) rfl ?_
          refine ms_goto (off := 4) (p' := 182) (by decide +kernel) ?_
          rfl
    · refine ms_aload_n (k := 0) (p' := 81) (by decide +kernel) rfl rfl ?_
      refine ms_aload_n (k := 0) (p' := 82) (by decide +kernel) rfl rfl ?_
      refine ms_geti (idx := 189) (ci := 9) (k := 37) (q := 1428) (p' := 85) (by decide +kernel) rfl (k_223 hw) ?_
      refine ms_bipush (n := 8) (v := 8) (p' := 87) (by decide +kernel) rfl ?_
      refine ms_icmp_ge (off := 7) (t := 94) (p' := 90) (by decide +kernel) rfl (fun hc => ?_) (fun hc => ?_)
      · refine ms_iconst (n := 0) (v := 0) (p' := 95) (by decide +kernel) rfl ?_
        rfl
      · refine ms_iconst (n := 1) (v := 1) (p' := 91) (by decide +kernel) rfl ?_
        refine ms_goto (off := 4) (p' := 95) (by decide +kernel) ?_
        rfl
  · refine ms_aload_n (k := 0) (p' := 10) (by decide +kernel) rfl rfl ?_
    refine ms_aload_n (k := 0) (p' := 11) (by decide +kernel) rfl rfl ?_
    refine ms_geti (idx := 203) (ci := 9) (k := 36) (q := 1427) (p' := 14) (by decide +kernel) rfl (k_223 hw) ?_
    refine ms_iconst (n := 4) (v := 4) (p' := 15) (by decide +kernel) rfl ?_
    refine ms_icmp_ge (off := 7) (t := 22) (p' := 18) (by decide +kernel) rfl (fun hc => ?_) (fun hc => ?_)
    · refine ms_iconst (n := 0) (v := 0) (p' := 23) (by decide +kernel) rfl ?_
      rfl
    · refine ms_iconst (n := 1) (v := 1) (p' := 19) (by decide +kernel) rfl ?_
      refine ms_goto (off := 4) (p' := 23) (by decide +kernel) ?_
      rfl
theorem l_M_lineHere_23 {sw : Bool} {w : mj_W} (hw : wk sw w) (f : mj_F) (xs1 : Int)  : mj_run yM_lineHere w f 23 [.inr (.inl 223), .inr (.inr (.inr 0)), .inr (.inr (.inr 0))] [.inl xs1, .inr (.inl 223)] = mj_bu (mj_call yM_opens w f [.inr (.inl 223), .inl xs1, .inl 2]) (fun f10 => mj_bi (mj_call yM_freshHere w f10 [.inr (.inl 223), .inr (.inl 241), .inl (f10 223 36)]) (fun f11 v12 => if (f11 223 33) = 0 then mj_gd (0 ≤ (f11 223 36) ∧ (f11 223 36) < ((4 : Nat) : Int)) (mj_run yM_lineHere w (mj_u (mj_u f11 241 (f11 223 36).toNat v12) 223 36 (mj_w ((mj_u f11 241 (f11 223 36).toNat v12 223 36) + 1))) 312 [.inr (.inl 223), .inl v12, .inr (.inr (.inr 0))] []) else some (w, f11, none))) := by
  refine ms_iconst (n := 2) (v := 2) (p' := 24) (by decide +kernel) rfl ?_
  refine ms_virt_u (idx := 200) (cy := yM_opens) (n := 2) (a := 223) (as := [.inl xs1, .inl 2]) (rest := []) (p' := 27) (by decide +kernel) rfl rfl rfl rfl (k_223 hw) rfl (fun f10 => ?_)
  refine ms_aload_n (k := 0) (p' := 28) (by decide +kernel) rfl rfl ?_
  refine ms_aload_n (k := 0) (p' := 29) (by decide +kernel) rfl rfl ?_
  refine ms_getr (idx := 69) (ci := 9) (k := 34) (q := 1425) (p' := 32) (by decide +kernel) rfl (k_223 hw) (r_223_34 hw) (by decide) ?_
  refine ms_aload_n (k := 0) (p' := 33) (by decide +kernel) rfl rfl ?_
  refine ms_geti (idx := 203) (ci := 9) (k := 36) (q := 1427) (p' := 36) (by decide +kernel) rfl (k_223 hw) ?_
  refine ms_virt_i (idx := 209) (cy := yM_freshHere) (n := 2) (a := 223) (as := [.inr (.inl 241), .inl (f10 223 36)]) (rest := []) (p' := 39) (by decide +kernel) rfl rfl rfl rfl (k_223 hw) rfl (fun f11 v12 => ?_)
  refine ms_istore_n (k := 1) (ls' := [.inr (.inl 223), .inl v12, .inr (.inr (.inr 0))]) (p' := 40) (by decide +kernel) rfl (Nat.le_of_ble_eq_true rfl) rfl ?_
  refine ms_aload_n (k := 0) (p' := 41) (by decide +kernel) rfl rfl ?_
  refine ms_geti (idx := 162) (ci := 9) (k := 33) (q := 1424) (p' := 44) (by decide +kernel) rfl (k_223 hw) ?_
  refine ms_if_eq (off := 4) (t := 48) (p' := 47) (by decide +kernel) rfl (fun hc => ?_) (fun hc => ?_)
  · refine ms_aload_n (k := 0) (p' := 49) (by decide +kernel) rfl rfl ?_
    refine ms_getr (idx := 69) (ci := 9) (k := 34) (q := 1425) (p' := 52) (by decide +kernel) rfl (k_223 hw) (r_223_34 hw) (by decide) ?_
    refine ms_aload_n (k := 0) (p' := 53) (by decide +kernel) rfl rfl ?_
    refine ms_geti (idx := 203) (ci := 9) (k := 36) (q := 1427) (p' := 56) (by decide +kernel) rfl (k_223 hw) ?_
    refine ms_iload_n (k := 1) (p' := 57) (by decide +kernel) rfl rfl ?_
    refine ms_iast (p' := 58) (by decide +kernel) rfl (k_241 hw) (fun hj13 => ?_)
    refine ms_aload_n (k := 0) (p' := 59) (by decide +kernel) rfl rfl ?_
    refine ms_dup_a (p' := 60) (by decide +kernel) rfl ?_
    refine ms_geti (idx := 203) (ci := 9) (k := 36) (q := 1427) (p' := 63) (by decide +kernel) rfl (k_223 hw) ?_
    refine ms_iconst (n := 1) (v := 1) (p' := 64) (by decide +kernel) rfl ?_
    refine ms_iadd (p' := 65) (by decide +kernel) rfl ?_
    refine ms_puti (idx := 203) (ci := 9) (k := 36) (q := 1427) (p' := 68) (by decide +kernel) rfl (k_223 hw) ?_
    refine ms_goto (off := 244) (p' := 312) (by decide +kernel) ?_
    rfl
  · exact ms_vret (by decide +kernel)
theorem l_M_lineHere_95 {sw : Bool} {w : mj_W} (hw : wk sw w) (f : mj_F) (xs1 : Int)  : mj_run yM_lineHere w f 95 [.inr (.inl 223), .inr (.inr (.inr 0)), .inr (.inr (.inr 0))] [.inl xs1, .inr (.inl 223)] = mj_bu (mj_call yM_opens w f [.inr (.inl 223), .inl xs1, .inl 2]) (fun f14 => mj_bi (mj_call yM_freshHere w f14 [.inr (.inl 223), .inr (.inl 242), .inl (f14 223 37)]) (fun f15 v16 => if ¬ (f15 223 33) = 0 then mj_run yM_lineHere w f15 127 [.inr (.inl 223), .inl v16, .inr (.inr (.inr 0))] [] else mj_bu (mj_call yM_whensHere w f15 [.inr (.inl 223), .inl (f15 223 37)]) (fun f17 => mj_run yM_lineHere w f17 127 [.inr (.inl 223), .inl v16, .inr (.inr (.inr 0))] []))) := by
  refine ms_iconst (n := 2) (v := 2) (p' := 96) (by decide +kernel) rfl ?_
  refine ms_virt_u (idx := 200) (cy := yM_opens) (n := 2) (a := 223) (as := [.inl xs1, .inl 2]) (rest := []) (p' := 99) (by decide +kernel) rfl rfl rfl rfl (k_223 hw) rfl (fun f14 => ?_)
  refine ms_aload_n (k := 0) (p' := 100) (by decide +kernel) rfl rfl ?_
  refine ms_aload_n (k := 0) (p' := 101) (by decide +kernel) rfl rfl ?_
  refine ms_getr (idx := 72) (ci := 9) (k := 35) (q := 1426) (p' := 104) (by decide +kernel) rfl (k_223 hw) (r_223_35 hw) (by decide) ?_
  refine ms_aload_n (k := 0) (p' := 105) (by decide +kernel) rfl rfl ?_
  refine ms_geti (idx := 189) (ci := 9) (k := 37) (q := 1428) (p' := 108) (by decide +kernel) rfl (k_223 hw) ?_
  refine ms_virt_i (idx := 209) (cy := yM_freshHere) (n := 2) (a := 223) (as := [.inr (.inl 242), .inl (f14 223 37)]) (rest := []) (p' := 111) (by decide +kernel) rfl rfl rfl rfl (k_223 hw) rfl (fun f15 v16 => ?_)
  refine ms_istore_n (k := 1) (ls' := [.inr (.inl 223), .inl v16, .inr (.inr (.inr 0))]) (p' := 112) (by decide +kernel) rfl (Nat.le_of_ble_eq_true rfl) rfl ?_
  refine ms_aload_n (k := 0) (p' := 113) (by decide +kernel) rfl rfl ?_
  refine ms_geti (idx := 162) (ci := 9) (k := 33) (q := 1424) (p' := 116) (by decide +kernel) rfl (k_223 hw) ?_
  refine ms_if_ne (off := 11) (t := 127) (p' := 119) (by decide +kernel) rfl (fun hc => ?_) (fun hc => ?_)
  · rfl
  · refine ms_aload_n (k := 0) (p' := 120) (by decide +kernel) rfl rfl ?_
    refine ms_aload_n (k := 0) (p' := 121) (by decide +kernel) rfl rfl ?_
    refine ms_geti (idx := 189) (ci := 9) (k := 37) (q := 1428) (p' := 124) (by decide +kernel) rfl (k_223 hw) ?_
    refine ms_virt_u (idx := 212) (cy := yM_whensHere) (n := 1) (a := 223) (as := [.inl (f15 223 37)]) (rest := []) (p' := 127) (by decide +kernel) rfl rfl rfl rfl (k_223 hw) rfl (fun f17 => ?_)
    rfl
theorem l_M_lineHere_127 {sw : Bool} {w : mj_W} (hw : wk sw w) (f : mj_F) (x1 : Int)  : mj_run yM_lineHere w f 127 [.inr (.inl 223), .inl x1, .inr (.inr (.inr 0))] [] = if (f 223 33) = 0 then mj_gd (0 ≤ (f 223 37) ∧ (f 223 37) < ((8 : Nat) : Int)) (mj_run yM_lineHere w (mj_u (mj_u f 242 (f 223 37).toNat x1) 223 37 (mj_w ((mj_u f 242 (f 223 37).toNat x1 223 37) + 1))) 312 [.inr (.inl 223), .inl x1, .inr (.inr (.inr 0))] []) else some (w, f, none) := by
  refine ms_aload_n (k := 0) (p' := 128) (by decide +kernel) rfl rfl ?_
  refine ms_geti (idx := 162) (ci := 9) (k := 33) (q := 1424) (p' := 131) (by decide +kernel) rfl (k_223 hw) ?_
  refine ms_if_eq (off := 4) (t := 135) (p' := 134) (by decide +kernel) rfl (fun hc => ?_) (fun hc => ?_)
  · refine ms_aload_n (k := 0) (p' := 136) (by decide +kernel) rfl rfl ?_
    refine ms_getr (idx := 72) (ci := 9) (k := 35) (q := 1426) (p' := 139) (by decide +kernel) rfl (k_223 hw) (r_223_35 hw) (by decide) ?_
    refine ms_aload_n (k := 0) (p' := 140) (by decide +kernel) rfl rfl ?_
    refine ms_geti (idx := 189) (ci := 9) (k := 37) (q := 1428) (p' := 143) (by decide +kernel) rfl (k_223 hw) ?_
    refine ms_iload_n (k := 1) (p' := 144) (by decide +kernel) rfl rfl ?_
    refine ms_iast (p' := 145) (by decide +kernel) rfl (k_242 hw) (fun hj18 => ?_)
    refine ms_aload_n (k := 0) (p' := 146) (by decide +kernel) rfl rfl ?_
    refine ms_dup_a (p' := 147) (by decide +kernel) rfl ?_
    refine ms_geti (idx := 189) (ci := 9) (k := 37) (q := 1428) (p' := 150) (by decide +kernel) rfl (k_223 hw) ?_
    refine ms_iconst (n := 1) (v := 1) (p' := 151) (by decide +kernel) rfl ?_
    refine ms_iadd (p' := 152) (by decide +kernel) rfl ?_
    refine ms_puti (idx := 189) (ci := 9) (k := 37) (q := 1428) (p' := 155) (by decide +kernel) rfl (k_223 hw) ?_
    refine ms_goto (off := 157) (p' := 312) (by decide +kernel) ?_
    rfl
  · exact ms_vret (by decide +kernel)
theorem l_M_lineHere_182 {sw : Bool} {w : mj_W} (hw : wk sw w) (f : mj_F) (xs1 : Int)  : mj_run yM_lineHere w f 182 [.inr (.inl 223), .inr (.inr (.inr 0)), .inr (.inr (.inr 0))] [.inl xs1, .inr (.inl 223)] = mj_bu (mj_call yM_opens w f [.inr (.inl 223), .inl xs1, .inl 2]) (fun f19 => mj_bi (mj_call yM_placeHere w f19 [.inr (.inl 223)]) (fun f20 v21 => mj_bi (mj_call yM_placeHere w f20 [.inr (.inl 223)]) (fun f22 v23 => if (f22 223 33) = 0 then mj_bu (mj_call yM_whensHere w f22 [.inr (.inl 223), .inl (mj_w (8 + (f22 223 38)))]) (fun f24 => if ¬ (f24 223 33) = 0 then mj_run yM_lineHere w f24 230 [.inr (.inl 223), .inl v21, .inl v23] [] else mj_bu (mj_call yM_setsHere w f24 [.inr (.inl 223), .inl (f24 223 38)]) (fun f25 => mj_run yM_lineHere w f25 230 [.inr (.inl 223), .inl v21, .inl v23] [])) else some (w, f22, none)))) := by
  refine ms_iconst (n := 2) (v := 2) (p' := 183) (by decide +kernel) rfl ?_
  refine ms_virt_u (idx := 200) (cy := yM_opens) (n := 2) (a := 223) (as := [.inl xs1, .inl 2]) (rest := []) (p' := 186) (by decide +kernel) rfl rfl rfl rfl (k_223 hw) rfl (fun f19 => ?_)
  refine ms_aload_n (k := 0) (p' := 187) (by decide +kernel) rfl rfl ?_
  refine ms_virt_i (idx := 218) (cy := yM_placeHere) (n := 0) (a := 223) (as := []) (rest := []) (p' := 190) (by decide +kernel) rfl rfl rfl rfl (k_223 hw) rfl (fun f20 v21 => ?_)
  refine ms_istore_n (k := 1) (ls' := [.inr (.inl 223), .inl v21, .inr (.inr (.inr 0))]) (p' := 191) (by decide +kernel) rfl (Nat.le_of_ble_eq_true rfl) rfl ?_
  refine ms_aload_n (k := 0) (p' := 192) (by decide +kernel) rfl rfl ?_
  refine ms_virt_i (idx := 218) (cy := yM_placeHere) (n := 0) (a := 223) (as := []) (rest := []) (p' := 195) (by decide +kernel) rfl rfl rfl rfl (k_223 hw) rfl (fun f22 v23 => ?_)
  refine ms_istore_n (k := 2) (ls' := [.inr (.inl 223), .inl v21, .inl v23]) (p' := 196) (by decide +kernel) rfl (Nat.le_of_ble_eq_true rfl) rfl ?_
  refine ms_aload_n (k := 0) (p' := 197) (by decide +kernel) rfl rfl ?_
  refine ms_geti (idx := 162) (ci := 9) (k := 33) (q := 1424) (p' := 200) (by decide +kernel) rfl (k_223 hw) ?_
  refine ms_if_eq (off := 4) (t := 204) (p' := 203) (by decide +kernel) rfl (fun hc => ?_) (fun hc => ?_)
  · refine ms_aload_n (k := 0) (p' := 205) (by decide +kernel) rfl rfl ?_
    refine ms_bipush (n := 8) (v := 8) (p' := 207) (by decide +kernel) rfl ?_
    refine ms_aload_n (k := 0) (p' := 208) (by decide +kernel) rfl rfl ?_
    refine ms_geti (idx := 215) (ci := 9) (k := 38) (q := 1429) (p' := 211) (by decide +kernel) rfl (k_223 hw) ?_
    refine ms_iadd (p' := 212) (by decide +kernel) rfl ?_
    refine ms_virt_u (idx := 212) (cy := yM_whensHere) (n := 1) (a := 223) (as := [.inl (mj_w (8 + (f22 223 38)))]) (rest := []) (p' := 215) (by decide +kernel) rfl rfl rfl rfl (k_223 hw) rfl (fun f24 => ?_)
    refine ms_aload_n (k := 0) (p' := 216) (by decide +kernel) rfl rfl ?_
    refine ms_geti (idx := 162) (ci := 9) (k := 33) (q := 1424) (p' := 219) (by decide +kernel) rfl (k_223 hw) ?_
    refine ms_if_ne (off := 11) (t := 230) (p' := 222) (by decide +kernel) rfl (fun hc => ?_) (fun hc => ?_)
    · rfl
    · refine ms_aload_n (k := 0) (p' := 223) (by decide +kernel) rfl rfl ?_
      refine ms_aload_n (k := 0) (p' := 224) (by decide +kernel) rfl rfl ?_
      refine ms_geti (idx := 215) (ci := 9) (k := 38) (q := 1429) (p' := 227) (by decide +kernel) rfl (k_223 hw) ?_
      refine ms_virt_u (idx := 221) (cy := yM_setsHere) (n := 1) (a := 223) (as := [.inl (f24 223 38)]) (rest := []) (p' := 230) (by decide +kernel) rfl rfl rfl rfl (k_223 hw) rfl (fun f25 => ?_)
      rfl
  · exact ms_vret (by decide +kernel)
theorem l_M_lineHere_230 {sw : Bool} {w : mj_W} (hw : wk sw w) (f : mj_F) (x1 : Int) (x2 : Int)  : mj_run yM_lineHere w f 230 [.inr (.inl 223), .inl x1, .inl x2] [] = mj_gd (0 ≤ (f 223 38) ∧ (f 223 38) < ((16 : Nat) : Int)) (mj_gd (0 ≤ (mj_u f 247 (f 223 38).toNat x1 223 38) ∧ (mj_u f 247 (f 223 38).toNat x1 223 38) < ((16 : Nat) : Int)) (mj_run yM_lineHere w (mj_u (mj_u (mj_u f 247 (f 223 38).toNat x1) 248 (mj_u f 247 (f 223 38).toNat x1 223 38).toNat x2) 223 38 (mj_w ((mj_u (mj_u f 247 (f 223 38).toNat x1) 248 (mj_u f 247 (f 223 38).toNat x1 223 38).toNat x2 223 38) + 1))) 312 [.inr (.inl 223), .inl x1, .inl x2] [])) := by
  refine ms_aload_n (k := 0) (p' := 231) (by decide +kernel) rfl rfl ?_
  refine ms_getr (idx := 87) (ci := 9) (k := 46) (q := 1437) (p' := 234) (by decide +kernel) rfl (k_223 hw) (r_223_46 hw) (by decide) ?_
  refine ms_aload_n (k := 0) (p' := 235) (by decide +kernel) rfl rfl ?_
  refine ms_geti (idx := 215) (ci := 9) (k := 38) (q := 1429) (p' := 238) (by decide +kernel) rfl (k_223 hw) ?_
  refine ms_iload_n (k := 1) (p' := 239) (by decide +kernel) rfl rfl ?_
  refine ms_iast (p' := 240) (by decide +kernel) rfl (k_247 hw) (fun hj26 => ?_)
  refine ms_aload_n (k := 0) (p' := 241) (by decide +kernel) rfl rfl ?_
  refine ms_getr (idx := 90) (ci := 9) (k := 47) (q := 1438) (p' := 244) (by decide +kernel) rfl (k_223 hw) (r_223_47 hw) (by decide) ?_
  refine ms_aload_n (k := 0) (p' := 245) (by decide +kernel) rfl rfl ?_
  refine ms_geti (idx := 215) (ci := 9) (k := 38) (q := 1429) (p' := 248) (by decide +kernel) rfl (k_223 hw) ?_
  refine ms_iload_n (k := 2) (p' := 249) (by decide +kernel) rfl rfl ?_
  refine ms_iast (p' := 250) (by decide +kernel) rfl (k_248 hw) (fun hj27 => ?_)
  refine ms_aload_n (k := 0) (p' := 251) (by decide +kernel) rfl rfl ?_
  refine ms_dup_a (p' := 252) (by decide +kernel) rfl ?_
  refine ms_geti (idx := 215) (ci := 9) (k := 38) (q := 1429) (p' := 255) (by decide +kernel) rfl (k_223 hw) ?_
  refine ms_iconst (n := 1) (v := 1) (p' := 256) (by decide +kernel) rfl ?_
  refine ms_iadd (p' := 257) (by decide +kernel) rfl ?_
  refine ms_puti (idx := 215) (ci := 9) (k := 38) (q := 1429) (p' := 260) (by decide +kernel) rfl (k_223 hw) ?_
  refine ms_goto (off := 52) (p' := 312) (by decide +kernel) ?_
  rfl
theorem l_M_lineHere_295 {sw : Bool} {w : mj_W} (hw : wk sw w) (f : mj_F) (xs1 : Int)  : mj_run yM_lineHere w f 295 [.inr (.inl 223), .inr (.inr (.inr 0)), .inr (.inr (.inr 0))] [.inl xs1, .inr (.inl 223)] = mj_bu (mj_call yM_opens w f [.inr (.inl 223), .inl xs1, .inl 3]) (fun f28 => mj_bi (mj_call yM_placeHere w (mj_u f28 223 40 1) [.inr (.inl 223)]) (fun f29 v30 => mj_run yM_lineHere w (mj_u f29 223 39 v30) 312 [.inr (.inl 223), .inr (.inr (.inr 0)), .inr (.inr (.inr 0))] [])) := by
  refine ms_iconst (n := 3) (v := 3) (p' := 296) (by decide +kernel) rfl ?_
  refine ms_virt_u (idx := 200) (cy := yM_opens) (n := 2) (a := 223) (as := [.inl xs1, .inl 3]) (rest := []) (p' := 299) (by decide +kernel) rfl rfl rfl rfl (k_223 hw) rfl (fun f28 => ?_)
  refine ms_aload_n (k := 0) (p' := 300) (by decide +kernel) rfl rfl ?_
  refine ms_iconst (n := 1) (v := 1) (p' := 301) (by decide +kernel) rfl ?_
  refine Eq.trans (ms_putz (idx := 224) (ci := 9) (k := 40) (q := 1431) (p' := 304) (by decide +kernel) rfl (k_223 hw) (fun _ => ?_)) (mj_gd_pos (by decide) _)
  refine ms_aload_n (k := 0) (p' := 305) (by decide +kernel) rfl rfl ?_
  refine ms_aload_n (k := 0) (p' := 306) (by decide +kernel) rfl rfl ?_
  refine ms_virt_i (idx := 218) (cy := yM_placeHere) (n := 0) (a := 223) (as := []) (rest := [.inr (.inl 223)]) (p' := 309) (by decide +kernel) rfl rfl rfl rfl (k_223 hw) rfl (fun f29 v30 => ?_)
  refine ms_puti (idx := 227) (ci := 9) (k := 39) (q := 1430) (p' := 312) (by decide +kernel) rfl (k_223 hw) ?_
  rfl
theorem l_M_lineHere_312 {sw : Bool} {w : mj_W} (hw : wk sw w) (f : mj_F) (u1 : mj_V) (u2 : mj_V)  : mj_run yM_lineHere w f 312 [.inr (.inl 223), u1, u2] [] = some (w, f, none) := by
  exact ms_vret (by decide +kernel)
theorem c_M_copies {sw : Bool} {w : mj_W} (hw : wk sw w) (f : mj_F) (r0 nr0 : Nat) (r1 nr1 : Nat) (x2 : Int) (hr0 : w.1 r0 = (100, nr0)) (hr1 : w.1 r1 = (100, nr1)) : mj_call yM_copies w f [.inr (.inl r0), .inr (.inl r1), .inl x2] = mj_run yM_copies w f 2 [.inr (.inl r0), .inr (.inl r1), .inl x2, .inl 0] [] := by
  show mj_run yM_copies w f 0 [.inr (.inl r0), .inr (.inl r1), .inl x2, .inr (.inr (.inr 0))] [] = _
  refine ms_iconst (n := 0) (v := 0) (p' := 1) (by decide +kernel) rfl ?_
  refine ms_istore_n (k := 3) (ls' := [.inr (.inl r0), .inr (.inl r1), .inl x2, .inl 0]) (p' := 2) (by decide +kernel) rfl (Nat.le_of_ble_eq_true rfl) rfl ?_
  rfl
theorem l_M_copies_2 {sw : Bool} {w : mj_W} (hw : wk sw w) (f : mj_F) (r0 nr0 : Nat) (r1 nr1 : Nat) (x2 : Int) (x3 : Int) (hr0 : w.1 r0 = (100, nr0)) (hr1 : w.1 r1 = (100, nr1)) : mj_run yM_copies w f 2 [.inr (.inl r0), .inr (.inl r1), .inl x2, .inl x3] [] = if x2 ≤ x3 then some (w, f, none) else mj_gd (0 ≤ x3 ∧ x3 < ((nr0 : Nat) : Int)) (mj_gd (0 ≤ x3 ∧ x3 < ((nr1 : Nat) : Int)) (mj_run yM_copies w (mj_u f r1 x3.toNat (f r0 x3.toNat)) 2 [.inr (.inl r0), .inr (.inl r1), .inl x2, .inl (mj_w (x3 + 1))] [])) := by
  refine ms_iload_n (k := 3) (p' := 3) (by decide +kernel) rfl rfl ?_
  refine ms_iload_n (k := 2) (p' := 4) (by decide +kernel) rfl rfl ?_
  refine ms_icmp_ge (off := 15) (t := 19) (p' := 7) (by decide +kernel) rfl (fun hc => ?_) (fun hc => ?_)
  · exact ms_vret (by decide +kernel)
  · refine ms_aload_n (k := 1) (p' := 8) (by decide +kernel) rfl rfl ?_
    refine ms_iload_n (k := 3) (p' := 9) (by decide +kernel) rfl rfl ?_
    refine ms_aload_n (k := 0) (p' := 10) (by decide +kernel) rfl rfl ?_
    refine ms_iload_n (k := 3) (p' := 11) (by decide +kernel) rfl rfl ?_
    refine ms_iald (p' := 12) (by decide +kernel) rfl hr0 (fun hj1 => ?_)
    refine ms_iast (p' := 13) (by decide +kernel) rfl hr1 (fun hj2 => ?_)
    refine ms_iinc (k := 3) (n := 1) (ls' := [.inr (.inl r0), .inr (.inl r1), .inl x2, .inl (mj_w (x3 + 1))]) (p' := 16) (by decide +kernel) rfl rfl rfl ?_
    refine ms_goto (off := (-14)) (p' := 2) (by decide +kernel) ?_
    rfl
theorem c_M_grows {sw : Bool} {w : mj_W} (hw : wk sw w) (f : mj_F) (x1 : Int) (x2 : Int)  : mj_call yM_grows w f [.inr (.inl 223), .inl x1, .inl x2] = mj_gd (0 ≤ (mj_w (x1 + 1)) ∧ (mj_w (x1 + 1)) < ((5 : Nat) : Int)) (if x2 ≤ (f 233 (mj_w (x1 + 1)).toNat) then some (w, f, none) else mj_gd (0 ≤ (mj_w (x1 + 1)) ∧ (mj_w (x1 + 1)) < ((5 : Nat) : Int)) (some (w, (mj_u f 233 (mj_w (x1 + 1)).toNat x2), none))) := by
  show mj_run yM_grows w f 0 [.inr (.inl 223), .inl x1, .inl x2] [] = _
  refine ms_iload_n (k := 2) (p' := 1) (by decide +kernel) rfl rfl ?_
  refine ms_aload_n (k := 0) (p' := 2) (by decide +kernel) rfl rfl ?_
  refine ms_getr (idx := 41) (ci := 9) (k := 15) (q := 1406) (p' := 5) (by decide +kernel) rfl (k_223 hw) (r_223_15 hw) (by decide) ?_
  refine ms_iload_n (k := 1) (p' := 6) (by decide +kernel) rfl rfl ?_
  refine ms_iconst (n := 1) (v := 1) (p' := 7) (by decide +kernel) rfl ?_
  refine ms_iadd (p' := 8) (by decide +kernel) rfl ?_
  refine ms_iald (p' := 9) (by decide +kernel) rfl (k_233 hw) (fun hj1 => ?_)
  refine ms_icmp_le (off := 12) (t := 21) (p' := 12) (by decide +kernel) rfl (fun hc => ?_) (fun hc => ?_)
  · exact ms_vret (by decide +kernel)
  · refine ms_aload_n (k := 0) (p' := 13) (by decide +kernel) rfl rfl ?_
    refine ms_getr (idx := 41) (ci := 9) (k := 15) (q := 1406) (p' := 16) (by decide +kernel) rfl (k_223 hw) (r_223_15 hw) (by decide) ?_
    refine ms_iload_n (k := 1) (p' := 17) (by decide +kernel) rfl rfl ?_
    refine ms_iconst (n := 1) (v := 1) (p' := 18) (by decide +kernel) rfl ?_
    refine ms_iadd (p' := 19) (by decide +kernel) rfl ?_
    refine ms_iload_n (k := 2) (p' := 20) (by decide +kernel) rfl rfl ?_
    refine ms_iast (p' := 21) (by decide +kernel) rfl (k_233 hw) (fun hj2 => ?_)
    exact ms_vret (by decide +kernel)
theorem c_M_greatens {sw : Bool} {w : mj_W} (hw : wk sw w) (f : mj_F) (x1 : Int)  : mj_call yM_greatens w f [.inr (.inl 223), .inl x1] = mj_run yM_greatens w f 2 [.inr (.inl 223), .inl x1, .inl 0] [] := by
  show mj_run yM_greatens w f 0 [.inr (.inl 223), .inl x1, .inr (.inr (.inr 0))] [] = _
  refine ms_iconst (n := 0) (v := 0) (p' := 1) (by decide +kernel) rfl ?_
  refine ms_istore_n (k := 2) (ls' := [.inr (.inl 223), .inl x1, .inl 0]) (p' := 2) (by decide +kernel) rfl (Nat.le_of_ble_eq_true rfl) rfl ?_
  rfl
theorem l_M_greatens_2 {sw : Bool} {w : mj_W} (hw : wk sw w) (f : mj_F) (x1 : Int) (x2 : Int)  : mj_run yM_greatens w f 2 [.inr (.inl 223), .inl x1, .inl x2] [] = mj_gd (0 ≤ x1 ∧ x1 < ((24 : Nat) : Int)) (if (f 224 x1.toNat) ≤ x2 then if 8 ≤ x1 then mj_run yM_greatens w f 53 [.inr (.inl 223), .inl x1, .inl 0] [] else some (w, f, none) else mj_gd (0 ≤ (mj_w ((mj_w (6 * x1)) + x2)) ∧ (mj_w ((mj_w (6 * x1)) + x2)) < ((144 : Nat) : Int)) (mj_gd (0 ≤ (mj_w ((mj_w (6 * x1)) + x2)) ∧ (mj_w ((mj_w (6 * x1)) + x2)) < ((144 : Nat) : Int)) (mj_bu (mj_call yM_grows w f [.inr (.inl 223), .inl (f 225 (mj_w ((mj_w (6 * x1)) + x2)).toNat), .inl (f 227 (mj_w ((mj_w (6 * x1)) + x2)).toNat)]) (fun f4 => mj_run yM_greatens w f4 2 [.inr (.inl 223), .inl x1, .inl (mj_w (x2 + 1))] [])))) := by
  refine ms_iload_n (k := 2) (p' := 3) (by decide +kernel) rfl rfl ?_
  refine ms_aload_n (k := 0) (p' := 4) (by decide +kernel) rfl rfl ?_
  refine ms_getr (idx := 13) (ci := 9) (k := 6) (q := 1397) (p' := 7) (by decide +kernel) rfl (k_223 hw) (r_223_6 hw) (by decide) ?_
  refine ms_iload_n (k := 1) (p' := 8) (by decide +kernel) rfl rfl ?_
  refine ms_iald (p' := 9) (by decide +kernel) rfl (k_224 hw) (fun hj1 => ?_)
  refine ms_icmp_ge (off := 35) (t := 44) (p' := 12) (by decide +kernel) rfl (fun hc => ?_) (fun hc => ?_)
  · refine ms_iload_n (k := 1) (p' := 45) (by decide +kernel) rfl rfl ?_
    refine ms_bipush (n := 8) (v := 8) (p' := 47) (by decide +kernel) rfl ?_
    refine ms_icmp_ge (off := 4) (t := 51) (p' := 50) (by decide +kernel) rfl (fun hc => ?_) (fun hc => ?_)
    · refine ms_iconst (n := 0) (v := 0) (p' := 52) (by decide +kernel) rfl ?_
      refine ms_istore_n (k := 2) (ls' := [.inr (.inl 223), .inl x1, .inl 0]) (p' := 53) (by decide +kernel) rfl (Nat.le_of_ble_eq_true rfl) rfl ?_
      rfl
    · exact ms_vret (by decide +kernel)
  · refine ms_aload_n (k := 0) (p' := 13) (by decide +kernel) rfl rfl ?_
    refine ms_aload_n (k := 0) (p' := 14) (by decide +kernel) rfl rfl ?_
    refine ms_getr (idx := 17) (ci := 9) (k := 7) (q := 1398) (p' := 17) (by decide +kernel) rfl (k_223 hw) (r_223_7 hw) (by decide) ?_
    refine ms_bipush (n := 6) (v := 6) (p' := 19) (by decide +kernel) rfl ?_
    refine ms_iload_n (k := 1) (p' := 20) (by decide +kernel) rfl rfl ?_
    refine ms_imul (p' := 21) (by decide +kernel) rfl ?_
    refine ms_iload_n (k := 2) (p' := 22) (by decide +kernel) rfl rfl ?_
    refine ms_iadd (p' := 23) (by decide +kernel) rfl ?_
    refine ms_iald (p' := 24) (by decide +kernel) rfl (k_225 hw) (fun hj2 => ?_)
    refine ms_aload_n (k := 0) (p' := 25) (by decide +kernel) rfl rfl ?_
    refine ms_getr (idx := 23) (ci := 9) (k := 9) (q := 1400) (p' := 28) (by decide +kernel) rfl (k_223 hw) (r_223_9 hw) (by decide) ?_
    refine ms_bipush (n := 6) (v := 6) (p' := 30) (by decide +kernel) rfl ?_
    refine ms_iload_n (k := 1) (p' := 31) (by decide +kernel) rfl rfl ?_
    refine ms_imul (p' := 32) (by decide +kernel) rfl ?_
    refine ms_iload_n (k := 2) (p' := 33) (by decide +kernel) rfl rfl ?_
    refine ms_iadd (p' := 34) (by decide +kernel) rfl ?_
    refine ms_iald (p' := 35) (by decide +kernel) rfl (k_227 hw) (fun hj3 => ?_)
    refine ms_virt_u (idx := 267) (cy := yM_grows) (n := 2) (a := 223) (as := [.inl (f 225 (mj_w ((mj_w (6 * x1)) + x2)).toNat), .inl (f 227 (mj_w ((mj_w (6 * x1)) + x2)).toNat)]) (rest := []) (p' := 38) (by decide +kernel) rfl rfl rfl rfl (k_223 hw) rfl (fun f4 => ?_)
    refine ms_iinc (k := 2) (n := 1) (ls' := [.inr (.inl 223), .inl x1, .inl (mj_w (x2 + 1))]) (p' := 41) (by decide +kernel) rfl rfl rfl ?_
    refine ms_goto (off := (-39)) (p' := 2) (by decide +kernel) ?_
    rfl
theorem l_M_greatens_53 {sw : Bool} {w : mj_W} (hw : wk sw w) (f : mj_F) (x1 : Int) (x2 : Int)  : mj_run yM_greatens w f 53 [.inr (.inl 223), .inl x1, .inl x2] [] = mj_gd (0 ≤ (mj_w (x1 - 8)) ∧ (mj_w (x1 - 8)) < ((16 : Nat) : Int)) (if (f 230 (mj_w (x1 - 8)).toNat) ≤ x2 then some (w, f, none) else mj_gd (0 ≤ (mj_w ((mj_w (4 * (mj_w (x1 - 8)))) + x2)) ∧ (mj_w ((mj_w (4 * (mj_w (x1 - 8)))) + x2)) < ((64 : Nat) : Int)) (mj_gd (0 ≤ (mj_w ((mj_w (4 * (mj_w (x1 - 8)))) + x2)) ∧ (mj_w ((mj_w (4 * (mj_w (x1 - 8)))) + x2)) < ((64 : Nat) : Int)) (mj_bu (mj_call yM_grows w f [.inr (.inl 223), .inl (f 231 (mj_w ((mj_w (4 * (mj_w (x1 - 8)))) + x2)).toNat), .inl (f 232 (mj_w ((mj_w (4 * (mj_w (x1 - 8)))) + x2)).toNat)]) (fun f8 => mj_run yM_greatens w f8 53 [.inr (.inl 223), .inl x1, .inl (mj_w (x2 + 1))] [])))) := by
  refine ms_iload_n (k := 2) (p' := 54) (by decide +kernel) rfl rfl ?_
  refine ms_aload_n (k := 0) (p' := 55) (by decide +kernel) rfl rfl ?_
  refine ms_getr (idx := 32) (ci := 9) (k := 12) (q := 1403) (p' := 58) (by decide +kernel) rfl (k_223 hw) (r_223_12 hw) (by decide) ?_
  refine ms_iload_n (k := 1) (p' := 59) (by decide +kernel) rfl rfl ?_
  refine ms_bipush (n := 8) (v := 8) (p' := 61) (by decide +kernel) rfl ?_
  refine ms_isub (p' := 62) (by decide +kernel) rfl ?_
  refine ms_iald (p' := 63) (by decide +kernel) rfl (k_230 hw) (fun hj5 => ?_)
  refine ms_icmp_ge (off := 39) (t := 102) (p' := 66) (by decide +kernel) rfl (fun hc => ?_) (fun hc => ?_)
  · exact ms_vret (by decide +kernel)
  · refine ms_aload_n (k := 0) (p' := 67) (by decide +kernel) rfl rfl ?_
    refine ms_aload_n (k := 0) (p' := 68) (by decide +kernel) rfl rfl ?_
    refine ms_getr (idx := 35) (ci := 9) (k := 13) (q := 1404) (p' := 71) (by decide +kernel) rfl (k_223 hw) (r_223_13 hw) (by decide) ?_
    refine ms_iconst (n := 4) (v := 4) (p' := 72) (by decide +kernel) rfl ?_
    refine ms_iload_n (k := 1) (p' := 73) (by decide +kernel) rfl rfl ?_
    refine ms_bipush (n := 8) (v := 8) (p' := 75) (by decide +kernel) rfl ?_
    refine ms_isub (p' := 76) (by decide +kernel) rfl ?_
    refine ms_imul (p' := 77) (by decide +kernel) rfl ?_
    refine ms_iload_n (k := 2) (p' := 78) (by decide +kernel) rfl rfl ?_
    refine ms_iadd (p' := 79) (by decide +kernel) rfl ?_
    refine ms_iald (p' := 80) (by decide +kernel) rfl (k_231 hw) (fun hj6 => ?_)
    refine ms_aload_n (k := 0) (p' := 81) (by decide +kernel) rfl rfl ?_
    refine ms_getr (idx := 38) (ci := 9) (k := 14) (q := 1405) (p' := 84) (by decide +kernel) rfl (k_223 hw) (r_223_14 hw) (by decide) ?_
    refine ms_iconst (n := 4) (v := 4) (p' := 85) (by decide +kernel) rfl ?_
    refine ms_iload_n (k := 1) (p' := 86) (by decide +kernel) rfl rfl ?_
    refine ms_bipush (n := 8) (v := 8) (p' := 88) (by decide +kernel) rfl ?_
    refine ms_isub (p' := 89) (by decide +kernel) rfl ?_
    refine ms_imul (p' := 90) (by decide +kernel) rfl ?_
    refine ms_iload_n (k := 2) (p' := 91) (by decide +kernel) rfl rfl ?_
    refine ms_iadd (p' := 92) (by decide +kernel) rfl ?_
    refine ms_iald (p' := 93) (by decide +kernel) rfl (k_232 hw) (fun hj7 => ?_)
    refine ms_virt_u (idx := 267) (cy := yM_grows) (n := 2) (a := 223) (as := [.inl (f 231 (mj_w ((mj_w (4 * (mj_w (x1 - 8)))) + x2)).toNat), .inl (f 232 (mj_w ((mj_w (4 * (mj_w (x1 - 8)))) + x2)).toNat)]) (rest := []) (p' := 96) (by decide +kernel) rfl rfl rfl rfl (k_223 hw) rfl (fun f8 => ?_)
    refine ms_iinc (k := 2) (n := 1) (ls' := [.inr (.inl 223), .inl x1, .inl (mj_w (x2 + 1))]) (p' := 99) (by decide +kernel) rfl rfl rfl ?_
    refine ms_goto (off := (-46)) (p' := 53) (by decide +kernel) ?_
    rfl
theorem c_M_reachedS {sw : Bool} {w : mj_W} (hw : wk sw w) (f : mj_F) (x0 : Int)  : mj_call yM_reachedS w f [.inl x0] = some (w, f, some (.inl (mj_w ((mj_w (2 * x0)) + 1)))) := by
  show mj_run yM_reachedS w f 0 [.inl x0] [] = _
  refine ms_iconst (n := 2) (v := 2) (p' := 1) (by decide +kernel) rfl ?_
  refine ms_iload_n (k := 0) (p' := 2) (by decide +kernel) rfl rfl ?_
  refine ms_imul (p' := 3) (by decide +kernel) rfl ?_
  refine ms_iconst (n := 1) (v := 1) (p' := 4) (by decide +kernel) rfl ?_
  refine ms_iadd (p' := 5) (by decide +kernel) rfl ?_
  exact ms_iret (by decide +kernel)
theorem c_M_tightens {sw : Bool} {w : mj_W} (hw : wk sw w) (f : mj_F) (x1 : Int) (x2 : Int) (x3 : Int)  : mj_call yM_tightens w f [.inr (.inl 223), .inl x1, .inl x2, .inl x3] = mj_bi (mj_call yM_get w f [.inr (.inl 223), .inl x1, .inl x2]) (fun f1 v2 => if v2 ≤ x3 then some (w, f1, none) else mj_bu (mj_call yM_put w f1 [.inr (.inl 223), .inl x1, .inl x2, .inl x3]) (fun f3 => some (w, f3, none))) := by
  show mj_run yM_tightens w f 0 [.inr (.inl 223), .inl x1, .inl x2, .inl x3] [] = _
  refine ms_iload_n (k := 3) (p' := 1) (by decide +kernel) rfl rfl ?_
  refine ms_aload_n (k := 0) (p' := 2) (by decide +kernel) rfl rfl ?_
  refine ms_iload_n (k := 1) (p' := 3) (by decide +kernel) rfl rfl ?_
  refine ms_iload_n (k := 2) (p' := 4) (by decide +kernel) rfl rfl ?_
  refine ms_virt_i (idx := 272) (cy := yM_get) (n := 2) (a := 223) (as := [.inl x1, .inl x2]) (rest := [.inl x3]) (p' := 7) (by decide +kernel) rfl rfl rfl rfl (k_223 hw) rfl (fun f1 v2 => ?_)
  refine ms_icmp_ge (off := 10) (t := 17) (p' := 10) (by decide +kernel) rfl (fun hc => ?_) (fun hc => ?_)
  · exact ms_vret (by decide +kernel)
  · refine ms_aload_n (k := 0) (p' := 11) (by decide +kernel) rfl rfl ?_
    refine ms_iload_n (k := 1) (p' := 12) (by decide +kernel) rfl rfl ?_
    refine ms_iload_n (k := 2) (p' := 13) (by decide +kernel) rfl rfl ?_
    refine ms_iload_n (k := 3) (p' := 14) (by decide +kernel) rfl rfl ?_
    refine ms_virt_u (idx := 276) (cy := yM_put) (n := 3) (a := 223) (as := [.inl x1, .inl x2, .inl x3]) (rest := []) (p' := 17) (by decide +kernel) rfl rfl rfl rfl (k_223 hw) rfl (fun f3 => ?_)
    exact ms_vret (by decide +kernel)
theorem c_M_meets {sw : Bool} {w : mj_W} (hw : wk sw w) (f : mj_F) (x1 : Int) (x2 : Int) (x3 : Int) (x4 : Int)  : mj_call yM_meets w f [.inr (.inl 223), .inl x1, .inl x2, .inl x3, .inl x4] = if 2 < x3 then if x3 < 2 then some (w, f, none) else if ¬ x3 = 4 then mj_bi (mj_call yM_reachedS w f [.inl (mj_w (-x4))]) (fun f1 v2 => mj_bu (mj_call yM_tightens w f1 [.inr (.inl 223), .inl x2, .inl x1, .inl v2]) (fun f3 => some (w, f3, none))) else mj_bu (mj_call yM_tightens w f [.inr (.inl 223), .inl x2, .inl x1, .inl (mj_w ((-2) * x4))]) (fun f4 => some (w, f4, none)) else if ¬ x3 = 0 then mj_bi (mj_call yM_reachedS w f [.inl x4]) (fun f5 v6 => mj_bu (mj_call yM_tightens w f5 [.inr (.inl 223), .inl x1, .inl x2, .inl v6]) (fun f7 => if x3 < 2 then some (w, f7, none) else if ¬ x3 = 4 then mj_bi (mj_call yM_reachedS w f7 [.inl (mj_w (-x4))]) (fun f8 v9 => mj_bu (mj_call yM_tightens w f8 [.inr (.inl 223), .inl x2, .inl x1, .inl v9]) (fun f10 => some (w, f10, none))) else mj_bu (mj_call yM_tightens w f7 [.inr (.inl 223), .inl x2, .inl x1, .inl (mj_w ((-2) * x4))]) (fun f11 => some (w, f11, none)))) else mj_bu (mj_call yM_tightens w f [.inr (.inl 223), .inl x1, .inl x2, .inl (mj_w (2 * x4))]) (fun f12 => if x3 < 2 then some (w, f12, none) else if ¬ x3 = 4 then mj_bi (mj_call yM_reachedS w f12 [.inl (mj_w (-x4))]) (fun f13 v14 => mj_bu (mj_call yM_tightens w f13 [.inr (.inl 223), .inl x2, .inl x1, .inl v14]) (fun f15 => some (w, f15, none))) else mj_bu (mj_call yM_tightens w f12 [.inr (.inl 223), .inl x2, .inl x1, .inl (mj_w ((-2) * x4))]) (fun f16 => some (w, f16, none))) := by
  show mj_run yM_meets w f 0 [.inr (.inl 223), .inl x1, .inl x2, .inl x3, .inl x4] [] = _
  refine ms_iload_n (k := 3) (p' := 1) (by decide +kernel) rfl rfl ?_
  refine ms_iconst (n := 2) (v := 2) (p' := 2) (by decide +kernel) rfl ?_
  refine ms_icmp_gt (off := 25) (t := 27) (p' := 5) (by decide +kernel) rfl (fun hc => ?_) (fun hc => ?_)
  · refine ms_iload_n (k := 3) (p' := 28) (by decide +kernel) rfl rfl ?_
    refine ms_iconst (n := 2) (v := 2) (p' := 29) (by decide +kernel) rfl ?_
    refine ms_icmp_lt (off := 28) (t := 57) (p' := 32) (by decide +kernel) rfl (fun hc => ?_) (fun hc => ?_)
    · exact ms_vret (by decide +kernel)
    · refine ms_aload_n (k := 0) (p' := 33) (by decide +kernel) rfl rfl ?_
      refine ms_iload_n (k := 2) (p' := 34) (by decide +kernel) rfl rfl ?_
      refine ms_iload_n (k := 1) (p' := 35) (by decide +kernel) rfl rfl ?_
      refine ms_iload_n (k := 3) (p' := 36) (by decide +kernel) rfl rfl ?_
      refine ms_iconst (n := 4) (v := 4) (p' := 37) (by decide +kernel) rfl ?_
      refine ms_icmp_ne (off := 11) (t := 48) (p' := 40) (by decide +kernel) rfl (fun hc => ?_) (fun hc => ?_)
      · refine ms_iload (k := 4) (p' := 50) (by decide +kernel) rfl rfl ?_
        refine ms_ineg (p' := 51) (by decide +kernel) rfl ?_
        refine ms_stat_i (idx := 292) (cy := yM_reachedS) (n := 1) (as := [.inl (mj_w (-x4))]) (rest := [.inl x1, .inl x2, .inr (.inl 223)]) (p' := 54) (by decide +kernel) rfl rfl rfl rfl rfl (fun f1 v2 => ?_)
        refine ms_virt_u (idx := 286) (cy := yM_tightens) (n := 3) (a := 223) (as := [.inl x2, .inl x1, .inl v2]) (rest := []) (p' := 57) (by decide +kernel) rfl rfl rfl rfl (k_223 hw) rfl (fun f3 => ?_)
        exact ms_vret (by decide +kernel)
      · refine ms_bipush (n := (-2)) (v := (-2)) (p' := 42) (by decide +kernel) rfl ?_
        refine ms_iload (k := 4) (p' := 44) (by decide +kernel) rfl rfl ?_
        refine ms_imul (p' := 45) (by decide +kernel) rfl ?_
        refine ms_goto (off := 9) (p' := 54) (by decide +kernel) ?_
        refine ms_virt_u (idx := 286) (cy := yM_tightens) (n := 3) (a := 223) (as := [.inl x2, .inl x1, .inl (mj_w ((-2) * x4))]) (rest := []) (p' := 57) (by decide +kernel) rfl rfl rfl rfl (k_223 hw) rfl (fun f4 => ?_)
        exact ms_vret (by decide +kernel)
  · refine ms_aload_n (k := 0) (p' := 6) (by decide +kernel) rfl rfl ?_
    refine ms_iload_n (k := 1) (p' := 7) (by decide +kernel) rfl rfl ?_
    refine ms_iload_n (k := 2) (p' := 8) (by decide +kernel) rfl rfl ?_
    refine ms_iload_n (k := 3) (p' := 9) (by decide +kernel) rfl rfl ?_
    refine ms_if_ne (off := 10) (t := 19) (p' := 12) (by decide +kernel) rfl (fun hc => ?_) (fun hc => ?_)
    · refine ms_iload (k := 4) (p' := 21) (by decide +kernel) rfl rfl ?_
      refine ms_stat_i (idx := 292) (cy := yM_reachedS) (n := 1) (as := [.inl x4]) (rest := [.inl x2, .inl x1, .inr (.inl 223)]) (p' := 24) (by decide +kernel) rfl rfl rfl rfl rfl (fun f5 v6 => ?_)
      refine ms_virt_u (idx := 286) (cy := yM_tightens) (n := 3) (a := 223) (as := [.inl x1, .inl x2, .inl v6]) (rest := []) (p' := 27) (by decide +kernel) rfl rfl rfl rfl (k_223 hw) rfl (fun f7 => ?_)
      refine ms_iload_n (k := 3) (p' := 28) (by decide +kernel) rfl rfl ?_
      refine ms_iconst (n := 2) (v := 2) (p' := 29) (by decide +kernel) rfl ?_
      refine ms_icmp_lt (off := 28) (t := 57) (p' := 32) (by decide +kernel) rfl (fun hc => ?_) (fun hc => ?_)
      · exact ms_vret (by decide +kernel)
      · refine ms_aload_n (k := 0) (p' := 33) (by decide +kernel) rfl rfl ?_
        refine ms_iload_n (k := 2) (p' := 34) (by decide +kernel) rfl rfl ?_
        refine ms_iload_n (k := 1) (p' := 35) (by decide +kernel) rfl rfl ?_
        refine ms_iload_n (k := 3) (p' := 36) (by decide +kernel) rfl rfl ?_
        refine ms_iconst (n := 4) (v := 4) (p' := 37) (by decide +kernel) rfl ?_
        refine ms_icmp_ne (off := 11) (t := 48) (p' := 40) (by decide +kernel) rfl (fun hc => ?_) (fun hc => ?_)
        · refine ms_iload (k := 4) (p' := 50) (by decide +kernel) rfl rfl ?_
          refine ms_ineg (p' := 51) (by decide +kernel) rfl ?_
          refine ms_stat_i (idx := 292) (cy := yM_reachedS) (n := 1) (as := [.inl (mj_w (-x4))]) (rest := [.inl x1, .inl x2, .inr (.inl 223)]) (p' := 54) (by decide +kernel) rfl rfl rfl rfl rfl (fun f8 v9 => ?_)
          refine ms_virt_u (idx := 286) (cy := yM_tightens) (n := 3) (a := 223) (as := [.inl x2, .inl x1, .inl v9]) (rest := []) (p' := 57) (by decide +kernel) rfl rfl rfl rfl (k_223 hw) rfl (fun f10 => ?_)
          exact ms_vret (by decide +kernel)
        · refine ms_bipush (n := (-2)) (v := (-2)) (p' := 42) (by decide +kernel) rfl ?_
          refine ms_iload (k := 4) (p' := 44) (by decide +kernel) rfl rfl ?_
          refine ms_imul (p' := 45) (by decide +kernel) rfl ?_
          refine ms_goto (off := 9) (p' := 54) (by decide +kernel) ?_
          refine ms_virt_u (idx := 286) (cy := yM_tightens) (n := 3) (a := 223) (as := [.inl x2, .inl x1, .inl (mj_w ((-2) * x4))]) (rest := []) (p' := 57) (by decide +kernel) rfl rfl rfl rfl (k_223 hw) rfl (fun f11 => ?_)
          exact ms_vret (by decide +kernel)
    · refine ms_iconst (n := 2) (v := 2) (p' := 13) (by decide +kernel) rfl ?_
      refine ms_iload (k := 4) (p' := 15) (by decide +kernel) rfl rfl ?_
      refine ms_imul (p' := 16) (by decide +kernel) rfl ?_
      refine ms_goto (off := 8) (p' := 24) (by decide +kernel) ?_
      refine ms_virt_u (idx := 286) (cy := yM_tightens) (n := 3) (a := 223) (as := [.inl x1, .inl x2, .inl (mj_w (2 * x4))]) (rest := []) (p' := 27) (by decide +kernel) rfl rfl rfl rfl (k_223 hw) rfl (fun f12 => ?_)
      refine ms_iload_n (k := 3) (p' := 28) (by decide +kernel) rfl rfl ?_
      refine ms_iconst (n := 2) (v := 2) (p' := 29) (by decide +kernel) rfl ?_
      refine ms_icmp_lt (off := 28) (t := 57) (p' := 32) (by decide +kernel) rfl (fun hc => ?_) (fun hc => ?_)
      · exact ms_vret (by decide +kernel)
      · refine ms_aload_n (k := 0) (p' := 33) (by decide +kernel) rfl rfl ?_
        refine ms_iload_n (k := 2) (p' := 34) (by decide +kernel) rfl rfl ?_
        refine ms_iload_n (k := 1) (p' := 35) (by decide +kernel) rfl rfl ?_
        refine ms_iload_n (k := 3) (p' := 36) (by decide +kernel) rfl rfl ?_
        refine ms_iconst (n := 4) (v := 4) (p' := 37) (by decide +kernel) rfl ?_
        refine ms_icmp_ne (off := 11) (t := 48) (p' := 40) (by decide +kernel) rfl (fun hc => ?_) (fun hc => ?_)
        · refine ms_iload (k := 4) (p' := 50) (by decide +kernel) rfl rfl ?_
          refine ms_ineg (p' := 51) (by decide +kernel) rfl ?_
          refine ms_stat_i (idx := 292) (cy := yM_reachedS) (n := 1) (as := [.inl (mj_w (-x4))]) (rest := [.inl x1, .inl x2, .inr (.inl 223)]) (p' := 54) (by decide +kernel) rfl rfl rfl rfl rfl (fun f13 v14 => ?_)
          refine ms_virt_u (idx := 286) (cy := yM_tightens) (n := 3) (a := 223) (as := [.inl x2, .inl x1, .inl v14]) (rest := []) (p' := 57) (by decide +kernel) rfl rfl rfl rfl (k_223 hw) rfl (fun f15 => ?_)
          exact ms_vret (by decide +kernel)
        · refine ms_bipush (n := (-2)) (v := (-2)) (p' := 42) (by decide +kernel) rfl ?_
          refine ms_iload (k := 4) (p' := 44) (by decide +kernel) rfl rfl ?_
          refine ms_imul (p' := 45) (by decide +kernel) rfl ?_
          refine ms_goto (off := 9) (p' := 54) (by decide +kernel) ?_
          refine ms_virt_u (idx := 286) (cy := yM_tightens) (n := 3) (a := 223) (as := [.inl x2, .inl x1, .inl (mj_w ((-2) * x4))]) (rest := []) (p' := 57) (by decide +kernel) rfl rfl rfl rfl (k_223 hw) rfl (fun f16 => ?_)
          exact ms_vret (by decide +kernel)
theorem c_M_plus {sw : Bool} {w : mj_W} (hw : wk sw w) (f : mj_F) (x0 : Int) (x1 : Int)  : mj_call yM_plus w f [.inl x0, .inl x1] = if 1000000 ≤ x0 then some (w, f, some (.inl 1000000)) else if x1 < 1000000 then some (w, f, some (.inl (mj_or (mj_w ((mj_and x0 (-2)) + (mj_and x1 (-2)))) (mj_and (mj_and x0 x1) 1)))) else some (w, f, some (.inl 1000000)) := by
  show mj_run yM_plus w f 0 [.inl x0, .inl x1] [] = _
  refine ms_iload_n (k := 0) (p' := 1) (by decide +kernel) rfl rfl ?_
  refine ms_ldc_w (idx := 271) (v := 1000000) (p' := 4) (by decide +kernel) rfl ?_
  refine ms_icmp_ge (off := 10) (t := 14) (p' := 7) (by decide +kernel) rfl (fun hc => ?_) (fun hc => ?_)
  · refine ms_ldc_w (idx := 271) (v := 1000000) (p' := 17) (by decide +kernel) rfl ?_
    refine ms_goto (off := 18) (p' := 35) (by decide +kernel) ?_
    exact ms_iret (by decide +kernel)
  · refine ms_iload_n (k := 1) (p' := 8) (by decide +kernel) rfl rfl ?_
    refine ms_ldc_w (idx := 271) (v := 1000000) (p' := 11) (by decide +kernel) rfl ?_
    refine ms_icmp_lt (off := 9) (t := 20) (p' := 14) (by decide +kernel) rfl (fun hc => ?_) (fun hc => ?_)
    · refine ms_iload_n (k := 0) (p' := 21) (by decide +kernel) rfl rfl ?_
      refine ms_bipush (n := (-2)) (v := (-2)) (p' := 23) (by decide +kernel) rfl ?_
      refine ms_iand (p' := 24) (by decide +kernel) rfl ?_
      refine ms_iload_n (k := 1) (p' := 25) (by decide +kernel) rfl rfl ?_
      refine ms_bipush (n := (-2)) (v := (-2)) (p' := 27) (by decide +kernel) rfl ?_
      refine ms_iand (p' := 28) (by decide +kernel) rfl ?_
      refine ms_iadd (p' := 29) (by decide +kernel) rfl ?_
      refine ms_iload_n (k := 0) (p' := 30) (by decide +kernel) rfl rfl ?_
      refine ms_iload_n (k := 1) (p' := 31) (by decide +kernel) rfl rfl ?_
      refine ms_iand (p' := 32) (by decide +kernel) rfl ?_
      refine ms_iconst (n := 1) (v := 1) (p' := 33) (by decide +kernel) rfl ?_
      refine ms_iand (p' := 34) (by decide +kernel) rfl ?_
      refine ms_ior (p' := 35) (by decide +kernel) rfl ?_
      exact ms_iret (by decide +kernel)
    · refine ms_ldc_w (idx := 271) (v := 1000000) (p' := 17) (by decide +kernel) rfl ?_
      refine ms_goto (off := 18) (p' := 35) (by decide +kernel) ?_
      exact ms_iret (by decide +kernel)
theorem c_M_closes {sw : Bool} {w : mj_W} (hw : wk sw w) (f : mj_F)   : mj_call yM_closes w f [.inr (.inl 223)] = mj_run yM_closes w f 2 [.inr (.inl 223), .inl 0, .inr (.inr (.inr 0)), .inr (.inr (.inr 0))] [] := by
  show mj_run yM_closes w f 0 [.inr (.inl 223), .inr (.inr (.inr 0)), .inr (.inr (.inr 0)), .inr (.inr (.inr 0))] [] = _
  refine ms_iconst (n := 0) (v := 0) (p' := 1) (by decide +kernel) rfl ?_
  refine ms_istore_n (k := 1) (ls' := [.inr (.inl 223), .inl 0, .inr (.inr (.inr 0)), .inr (.inr (.inr 0))]) (p' := 2) (by decide +kernel) rfl (Nat.le_of_ble_eq_true rfl) rfl ?_
  rfl
theorem l_M_closes_2 {sw : Bool} {w : mj_W} (hw : wk sw w) (f : mj_F) (x1 : Int) (u2 : mj_V) (u3 : mj_V)  : mj_run yM_closes w f 2 [.inr (.inl 223), .inl x1, u2, u3] [] = if (f 223 52) ≤ x1 then mj_run yM_closes w f 86 [.inr (.inl 223), .inl 0, u2, u3] [] else mj_run yM_closes w f 12 [.inr (.inl 223), .inl x1, .inl 0, u3] [] := by
  refine ms_iload_n (k := 1) (p' := 3) (by decide +kernel) rfl rfl ?_
  refine ms_aload_n (k := 0) (p' := 4) (by decide +kernel) rfl rfl ?_
  refine ms_geti (idx := 280) (ci := 9) (k := 52) (q := 1443) (p' := 7) (by decide +kernel) rfl (k_223 hw) ?_
  refine ms_icmp_ge (off := 77) (t := 84) (p' := 10) (by decide +kernel) rfl (fun hc => ?_) (fun hc => ?_)
  · refine ms_iconst (n := 0) (v := 0) (p' := 85) (by decide +kernel) rfl ?_
    refine ms_istore_n (k := 1) (ls' := [.inr (.inl 223), .inl 0, u2, u3]) (p' := 86) (by decide +kernel) rfl (Nat.le_of_ble_eq_true rfl) rfl ?_
    rfl
  · refine ms_iconst (n := 0) (v := 0) (p' := 11) (by decide +kernel) rfl ?_
    refine ms_istore_n (k := 2) (ls' := [.inr (.inl 223), .inl x1, .inl 0, u3]) (p' := 12) (by decide +kernel) rfl (Nat.le_of_ble_eq_true rfl) rfl ?_
    rfl
theorem l_M_closes_12 {sw : Bool} {w : mj_W} (hw : wk sw w) (f : mj_F) (x1 : Int) (x2 : Int) (u3 : mj_V)  : mj_run yM_closes w f 12 [.inr (.inl 223), .inl x1, .inl x2, u3] [] = if (f 223 52) ≤ x2 then mj_run yM_closes w f 2 [.inr (.inl 223), .inl (mj_w (x1 + 1)), .inl x2, u3] [] else mj_bi (mj_call yM_get w f [.inr (.inl 223), .inl x2, .inl x1]) (fun f1 v2 => if v2 < 1000000 then mj_run yM_closes w f1 37 [.inr (.inl 223), .inl x1, .inl x2, .inl 0] [] else mj_run yM_closes w f1 12 [.inr (.inl 223), .inl x1, .inl (mj_w (x2 + 1)), u3] []) := by
  refine ms_iload_n (k := 2) (p' := 13) (by decide +kernel) rfl rfl ?_
  refine ms_aload_n (k := 0) (p' := 14) (by decide +kernel) rfl rfl ?_
  refine ms_geti (idx := 280) (ci := 9) (k := 52) (q := 1443) (p' := 17) (by decide +kernel) rfl (k_223 hw) ?_
  refine ms_icmp_ge (off := 61) (t := 78) (p' := 20) (by decide +kernel) rfl (fun hc => ?_) (fun hc => ?_)
  · refine ms_iinc (k := 1) (n := 1) (ls' := [.inr (.inl 223), .inl (mj_w (x1 + 1)), .inl x2, u3]) (p' := 81) (by decide +kernel) rfl rfl rfl ?_
    refine ms_goto (off := (-79)) (p' := 2) (by decide +kernel) ?_
    rfl
  · refine ms_aload_n (k := 0) (p' := 21) (by decide +kernel) rfl rfl ?_
    refine ms_iload_n (k := 2) (p' := 22) (by decide +kernel) rfl rfl ?_
    refine ms_iload_n (k := 1) (p' := 23) (by decide +kernel) rfl rfl ?_
    refine ms_virt_i (idx := 272) (cy := yM_get) (n := 2) (a := 223) (as := [.inl x2, .inl x1]) (rest := []) (p' := 26) (by decide +kernel) rfl rfl rfl rfl (k_223 hw) rfl (fun f1 v2 => ?_)
    refine ms_ldc_w (idx := 271) (v := 1000000) (p' := 29) (by decide +kernel) rfl ?_
    refine ms_icmp_lt (off := 6) (t := 35) (p' := 32) (by decide +kernel) rfl (fun hc => ?_) (fun hc => ?_)
    · refine ms_iconst (n := 0) (v := 0) (p' := 36) (by decide +kernel) rfl ?_
      refine ms_istore_n (k := 3) (ls' := [.inr (.inl 223), .inl x1, .inl x2, .inl 0]) (p' := 37) (by decide +kernel) rfl (Nat.le_of_ble_eq_true rfl) rfl ?_
      rfl
    · refine ms_goto (off := 40) (p' := 72) (by decide +kernel) ?_
      refine ms_iinc (k := 2) (n := 1) (ls' := [.inr (.inl 223), .inl x1, .inl (mj_w (x2 + 1)), u3]) (p' := 75) (by decide +kernel) rfl rfl rfl ?_
      refine ms_goto (off := (-63)) (p' := 12) (by decide +kernel) ?_
      rfl
theorem l_M_closes_37 {sw : Bool} {w : mj_W} (hw : wk sw w) (f : mj_F) (x1 : Int) (x2 : Int) (x3 : Int)  : mj_run yM_closes w f 37 [.inr (.inl 223), .inl x1, .inl x2, .inl x3] [] = if (f 223 52) ≤ x3 then mj_run yM_closes w f 12 [.inr (.inl 223), .inl x1, .inl (mj_w (x2 + 1)), .inl x3] [] else mj_bi (mj_call yM_get w f [.inr (.inl 223), .inl x2, .inl x1]) (fun f3 v4 => mj_bi (mj_call yM_get w f3 [.inr (.inl 223), .inl x1, .inl x3]) (fun f5 v6 => mj_bi (mj_call yM_plus w f5 [.inl v4, .inl v6]) (fun f7 v8 => mj_bu (mj_call yM_tightens w f7 [.inr (.inl 223), .inl x2, .inl x3, .inl v8]) (fun f9 => mj_run yM_closes w f9 37 [.inr (.inl 223), .inl x1, .inl x2, .inl (mj_w (x3 + 1))] [])))) := by
  refine ms_iload_n (k := 3) (p' := 38) (by decide +kernel) rfl rfl ?_
  refine ms_aload_n (k := 0) (p' := 39) (by decide +kernel) rfl rfl ?_
  refine ms_geti (idx := 280) (ci := 9) (k := 52) (q := 1443) (p' := 42) (by decide +kernel) rfl (k_223 hw) ?_
  refine ms_icmp_ge (off := 30) (t := 72) (p' := 45) (by decide +kernel) rfl (fun hc => ?_) (fun hc => ?_)
  · refine ms_iinc (k := 2) (n := 1) (ls' := [.inr (.inl 223), .inl x1, .inl (mj_w (x2 + 1)), .inl x3]) (p' := 75) (by decide +kernel) rfl rfl rfl ?_
    refine ms_goto (off := (-63)) (p' := 12) (by decide +kernel) ?_
    rfl
  · refine ms_aload_n (k := 0) (p' := 46) (by decide +kernel) rfl rfl ?_
    refine ms_iload_n (k := 2) (p' := 47) (by decide +kernel) rfl rfl ?_
    refine ms_iload_n (k := 3) (p' := 48) (by decide +kernel) rfl rfl ?_
    refine ms_aload_n (k := 0) (p' := 49) (by decide +kernel) rfl rfl ?_
    refine ms_iload_n (k := 2) (p' := 50) (by decide +kernel) rfl rfl ?_
    refine ms_iload_n (k := 1) (p' := 51) (by decide +kernel) rfl rfl ?_
    refine ms_virt_i (idx := 272) (cy := yM_get) (n := 2) (a := 223) (as := [.inl x2, .inl x1]) (rest := [.inl x3, .inl x2, .inr (.inl 223)]) (p' := 54) (by decide +kernel) rfl rfl rfl rfl (k_223 hw) rfl (fun f3 v4 => ?_)
    refine ms_aload_n (k := 0) (p' := 55) (by decide +kernel) rfl rfl ?_
    refine ms_iload_n (k := 1) (p' := 56) (by decide +kernel) rfl rfl ?_
    refine ms_iload_n (k := 3) (p' := 57) (by decide +kernel) rfl rfl ?_
    refine ms_virt_i (idx := 272) (cy := yM_get) (n := 2) (a := 223) (as := [.inl x1, .inl x3]) (rest := [.inl v4, .inl x3, .inl x2, .inr (.inl 223)]) (p' := 60) (by decide +kernel) rfl rfl rfl rfl (k_223 hw) rfl (fun f5 v6 => ?_)
    refine ms_stat_i (idx := 283) (cy := yM_plus) (n := 2) (as := [.inl v4, .inl v6]) (rest := [.inl x3, .inl x2, .inr (.inl 223)]) (p' := 63) (by decide +kernel) rfl rfl rfl rfl rfl (fun f7 v8 => ?_)
    refine ms_virt_u (idx := 286) (cy := yM_tightens) (n := 3) (a := 223) (as := [.inl x2, .inl x3, .inl v8]) (rest := []) (p' := 66) (by decide +kernel) rfl rfl rfl rfl (k_223 hw) rfl (fun f9 => ?_)
    refine ms_iinc (k := 3) (n := 1) (ls' := [.inr (.inl 223), .inl x1, .inl x2, .inl (mj_w (x3 + 1))]) (p' := 69) (by decide +kernel) rfl rfl rfl ?_
    refine ms_goto (off := (-32)) (p' := 37) (by decide +kernel) ?_
    rfl
theorem l_M_closes_86 {sw : Bool} {w : mj_W} (hw : wk sw w) (f : mj_F) (x1 : Int) (u2 : mj_V) (u3 : mj_V)  : mj_run yM_closes w f 86 [.inr (.inl 223), .inl x1, u2, u3] [] = if (f 223 52) ≤ x1 then some (w, f, none) else mj_bi (mj_call yM_get w f [.inr (.inl 223), .inl x1, .inl x1]) (fun f10 v11 => if 1 ≤ v11 then mj_gd ((mj_or (f 223 53) 0) = 0 ∨ (mj_or (f 223 53) 0) = 1) (mj_run yM_closes w (mj_u f10 223 53 (mj_or (f 223 53) 0)) 86 [.inr (.inl 223), .inl (mj_w (x1 + 1)), u2, u3] []) else mj_gd ((mj_or (f 223 53) 1) = 0 ∨ (mj_or (f 223 53) 1) = 1) (mj_run yM_closes w (mj_u f10 223 53 (mj_or (f 223 53) 1)) 86 [.inr (.inl 223), .inl (mj_w (x1 + 1)), u2, u3] [])) := by
  refine ms_iload_n (k := 1) (p' := 87) (by decide +kernel) rfl rfl ?_
  refine ms_aload_n (k := 0) (p' := 88) (by decide +kernel) rfl rfl ?_
  refine ms_geti (idx := 280) (ci := 9) (k := 52) (q := 1443) (p' := 91) (by decide +kernel) rfl (k_223 hw) ?_
  refine ms_icmp_ge (off := 33) (t := 124) (p' := 94) (by decide +kernel) rfl (fun hc => ?_) (fun hc => ?_)
  · exact ms_vret (by decide +kernel)
  · refine ms_aload_n (k := 0) (p' := 95) (by decide +kernel) rfl rfl ?_
    refine ms_dup_a (p' := 96) (by decide +kernel) rfl ?_
    refine ms_geti (idx := 289) (ci := 9) (k := 53) (q := 1444) (p' := 99) (by decide +kernel) rfl (k_223 hw) ?_
    refine ms_aload_n (k := 0) (p' := 100) (by decide +kernel) rfl rfl ?_
    refine ms_iload_n (k := 1) (p' := 101) (by decide +kernel) rfl rfl ?_
    refine ms_iload_n (k := 1) (p' := 102) (by decide +kernel) rfl rfl ?_
    refine ms_virt_i (idx := 272) (cy := yM_get) (n := 2) (a := 223) (as := [.inl x1, .inl x1]) (rest := [.inl (f 223 53), .inr (.inl 223)]) (p' := 105) (by decide +kernel) rfl rfl rfl rfl (k_223 hw) rfl (fun f10 v11 => ?_)
    refine ms_iconst (n := 1) (v := 1) (p' := 106) (by decide +kernel) rfl ?_
    refine ms_icmp_ge (off := 7) (t := 113) (p' := 109) (by decide +kernel) rfl (fun hc => ?_) (fun hc => ?_)
    · refine ms_iconst (n := 0) (v := 0) (p' := 114) (by decide +kernel) rfl ?_
      refine ms_ior (p' := 115) (by decide +kernel) rfl ?_
      refine ms_putz (idx := 289) (ci := 9) (k := 53) (q := 1444) (p' := 118) (by decide +kernel) rfl (k_223 hw) (fun hz_ => ?_)
      refine ms_iinc (k := 1) (n := 1) (ls' := [.inr (.inl 223), .inl (mj_w (x1 + 1)), u2, u3]) (p' := 121) (by decide +kernel) rfl rfl rfl ?_
      refine ms_goto (off := (-35)) (p' := 86) (by decide +kernel) ?_
      rfl
    · refine ms_iconst (n := 1) (v := 1) (p' := 110) (by decide +kernel) rfl ?_
      refine ms_goto (off := 4) (p' := 114) (by decide +kernel) ?_
      refine ms_ior (p' := 115) (by decide +kernel) rfl ?_
      refine ms_putz (idx := 289) (ci := 9) (k := 53) (q := 1444) (p' := 118) (by decide +kernel) rfl (k_223 hw) (fun hz_ => ?_)
      refine ms_iinc (k := 1) (n := 1) (ls' := [.inr (.inl 223), .inl (mj_w (x1 + 1)), u2, u3]) (p' := 121) (by decide +kernel) rfl rfl rfl ?_
      refine ms_goto (off := (-35)) (p' := 86) (by decide +kernel) ?_
      rfl
theorem c_M_whens {sw : Bool} {w : mj_W} (hw : wk sw w) (f : mj_F) (x1 : Int)  : mj_call yM_whens w f [.inr (.inl 223), .inl x1] = mj_run yM_whens w f 5 [.inr (.inl 223), .inl x1, .inl (mj_w (6 * x1))] [] := by
  show mj_run yM_whens w f 0 [.inr (.inl 223), .inl x1, .inr (.inr (.inr 0))] [] = _
  refine ms_bipush (n := 6) (v := 6) (p' := 2) (by decide +kernel) rfl ?_
  refine ms_iload_n (k := 1) (p' := 3) (by decide +kernel) rfl rfl ?_
  refine ms_imul (p' := 4) (by decide +kernel) rfl ?_
  refine ms_istore_n (k := 2) (ls' := [.inr (.inl 223), .inl x1, .inl (mj_w (6 * x1))]) (p' := 5) (by decide +kernel) rfl (Nat.le_of_ble_eq_true rfl) rfl ?_
  rfl
theorem l_M_whens_5 {sw : Bool} {w : mj_W} (hw : wk sw w) (f : mj_F) (x1 : Int) (x2 : Int)  : mj_run yM_whens w f 5 [.inr (.inl 223), .inl x1, .inl x2] [] = mj_gd (0 ≤ x1 ∧ x1 < ((24 : Nat) : Int)) (if (mj_w ((mj_w (6 * x1)) + (f 224 x1.toNat))) ≤ x2 then mj_bu (mj_call yM_closes w f [.inr (.inl 223)]) (fun f2 => some (w, f2, none)) else mj_gd (0 ≤ x2 ∧ x2 < ((144 : Nat) : Int)) (mj_gd (0 ≤ x2 ∧ x2 < ((144 : Nat) : Int)) (mj_gd (0 ≤ x2 ∧ x2 < ((144 : Nat) : Int)) (mj_bu (mj_call yM_meets w f [.inr (.inl 223), .inl (mj_w ((f 225 x2.toNat) + 1)), .inl 0, .inl (f 226 x2.toNat), .inl (f 227 x2.toNat)]) (fun f6 => mj_run yM_whens w f6 5 [.inr (.inl 223), .inl x1, .inl (mj_w (x2 + 1))] []))))) := by
  refine ms_iload_n (k := 2) (p' := 6) (by decide +kernel) rfl rfl ?_
  refine ms_bipush (n := 6) (v := 6) (p' := 8) (by decide +kernel) rfl ?_
  refine ms_iload_n (k := 1) (p' := 9) (by decide +kernel) rfl rfl ?_
  refine ms_imul (p' := 10) (by decide +kernel) rfl ?_
  refine ms_aload_n (k := 0) (p' := 11) (by decide +kernel) rfl rfl ?_
  refine ms_getr (idx := 13) (ci := 9) (k := 6) (q := 1397) (p' := 14) (by decide +kernel) rfl (k_223 hw) (r_223_6 hw) (by decide) ?_
  refine ms_iload_n (k := 1) (p' := 15) (by decide +kernel) rfl rfl ?_
  refine ms_iald (p' := 16) (by decide +kernel) rfl (k_224 hw) (fun hj1 => ?_)
  refine ms_iadd (p' := 17) (by decide +kernel) rfl ?_
  refine ms_icmp_ge (off := 34) (t := 51) (p' := 20) (by decide +kernel) rfl (fun hc => ?_) (fun hc => ?_)
  · refine ms_aload_n (k := 0) (p' := 52) (by decide +kernel) rfl rfl ?_
    refine ms_virt_u (idx := 300) (cy := yM_closes) (n := 0) (a := 223) (as := []) (rest := []) (p' := 55) (by decide +kernel) rfl rfl rfl rfl (k_223 hw) rfl (fun f2 => ?_)
    exact ms_vret (by decide +kernel)
  · refine ms_aload_n (k := 0) (p' := 21) (by decide +kernel) rfl rfl ?_
    refine ms_aload_n (k := 0) (p' := 22) (by decide +kernel) rfl rfl ?_
    refine ms_getr (idx := 17) (ci := 9) (k := 7) (q := 1398) (p' := 25) (by decide +kernel) rfl (k_223 hw) (r_223_7 hw) (by decide) ?_
    refine ms_iload_n (k := 2) (p' := 26) (by decide +kernel) rfl rfl ?_
    refine ms_iald (p' := 27) (by decide +kernel) rfl (k_225 hw) (fun hj3 => ?_)
    refine ms_iconst (n := 1) (v := 1) (p' := 28) (by decide +kernel) rfl ?_
    refine ms_iadd (p' := 29) (by decide +kernel) rfl ?_
    refine ms_iconst (n := 0) (v := 0) (p' := 30) (by decide +kernel) rfl ?_
    refine ms_aload_n (k := 0) (p' := 31) (by decide +kernel) rfl rfl ?_
    refine ms_getr (idx := 20) (ci := 9) (k := 8) (q := 1399) (p' := 34) (by decide +kernel) rfl (k_223 hw) (r_223_8 hw) (by decide) ?_
    refine ms_iload_n (k := 2) (p' := 35) (by decide +kernel) rfl rfl ?_
    refine ms_iald (p' := 36) (by decide +kernel) rfl (k_226 hw) (fun hj4 => ?_)
    refine ms_aload_n (k := 0) (p' := 37) (by decide +kernel) rfl rfl ?_
    refine ms_getr (idx := 23) (ci := 9) (k := 9) (q := 1400) (p' := 40) (by decide +kernel) rfl (k_223 hw) (r_223_9 hw) (by decide) ?_
    refine ms_iload_n (k := 2) (p' := 41) (by decide +kernel) rfl rfl ?_
    refine ms_iald (p' := 42) (by decide +kernel) rfl (k_227 hw) (fun hj5 => ?_)
    refine ms_virt_u (idx := 296) (cy := yM_meets) (n := 4) (a := 223) (as := [.inl (mj_w ((f 225 x2.toNat) + 1)), .inl 0, .inl (f 226 x2.toNat), .inl (f 227 x2.toNat)]) (rest := []) (p' := 45) (by decide +kernel) rfl rfl rfl rfl (k_223 hw) rfl (fun f6 => ?_)
    refine ms_iinc (k := 2) (n := 1) (ls' := [.inr (.inl 223), .inl x1, .inl (mj_w (x2 + 1))]) (p' := 48) (by decide +kernel) rfl rfl rfl ?_
    refine ms_goto (off := (-43)) (p' := 5) (by decide +kernel) ?_
    rfl
theorem c_M_ups {sw : Bool} {w : mj_W} (hw : wk sw w) (f : mj_F)   : mj_call yM_ups w f [.inr (.inl 223)] = mj_run yM_ups w f 2 [.inr (.inl 223), .inl 1] [] := by
  show mj_run yM_ups w f 0 [.inr (.inl 223), .inr (.inr (.inr 0))] [] = _
  refine ms_iconst (n := 1) (v := 1) (p' := 1) (by decide +kernel) rfl ?_
  refine ms_istore_n (k := 1) (ls' := [.inr (.inl 223), .inl 1]) (p' := 2) (by decide +kernel) rfl (Nat.le_of_ble_eq_true rfl) rfl ?_
  rfl
theorem l_M_ups_2 {sw : Bool} {w : mj_W} (hw : wk sw w) (f : mj_F) (x1 : Int)  : mj_run yM_ups w f 2 [.inr (.inl 223), .inl x1] [] = if (f 223 52) ≤ x1 then some (w, f, none) else mj_bu (mj_call yM_put w f [.inr (.inl 223), .inl x1, .inl 0, .inl 1000000]) (fun f1 => mj_run yM_ups w f1 2 [.inr (.inl 223), .inl (mj_w (x1 + 1))] []) := by
  refine ms_iload_n (k := 1) (p' := 3) (by decide +kernel) rfl rfl ?_
  refine ms_aload_n (k := 0) (p' := 4) (by decide +kernel) rfl rfl ?_
  refine ms_geti (idx := 280) (ci := 9) (k := 52) (q := 1443) (p' := 7) (by decide +kernel) rfl (k_223 hw) ?_
  refine ms_icmp_ge (off := 18) (t := 25) (p' := 10) (by decide +kernel) rfl (fun hc => ?_) (fun hc => ?_)
  · exact ms_vret (by decide +kernel)
  · refine ms_aload_n (k := 0) (p' := 11) (by decide +kernel) rfl rfl ?_
    refine ms_iload_n (k := 1) (p' := 12) (by decide +kernel) rfl rfl ?_
    refine ms_iconst (n := 0) (v := 0) (p' := 13) (by decide +kernel) rfl ?_
    refine ms_ldc_w (idx := 271) (v := 1000000) (p' := 16) (by decide +kernel) rfl ?_
    refine ms_virt_u (idx := 276) (cy := yM_put) (n := 3) (a := 223) (as := [.inl x1, .inl 0, .inl 1000000]) (rest := []) (p' := 19) (by decide +kernel) rfl rfl rfl rfl (k_223 hw) rfl (fun f1 => ?_)
    refine ms_iinc (k := 1) (n := 1) (ls' := [.inr (.inl 223), .inl (mj_w (x1 + 1))]) (p' := 22) (by decide +kernel) rfl rfl rfl ?_
    refine ms_goto (off := (-20)) (p' := 2) (by decide +kernel) ?_
    rfl
theorem c_M_stays {sw : Bool} {w : mj_W} (hw : wk sw w) (f : mj_F) (x1 : Int)  : mj_call yM_stays w f [.inr (.inl 223), .inl x1] = mj_bu (mj_call yM_whens w f [.inr (.inl 223), .inl x1]) (fun f1 => mj_bu (mj_call yM_ups w f1 [.inr (.inl 223)]) (fun f2 => mj_bu (mj_call yM_whens w f2 [.inr (.inl 223), .inl x1]) (fun f3 => some (w, f3, none)))) := by
  show mj_run yM_stays w f 0 [.inr (.inl 223), .inl x1] [] = _
  refine ms_aload_n (k := 0) (p' := 1) (by decide +kernel) rfl rfl ?_
  refine ms_iload_n (k := 1) (p' := 2) (by decide +kernel) rfl rfl ?_
  refine ms_virt_u (idx := 303) (cy := yM_whens) (n := 1) (a := 223) (as := [.inl x1]) (rest := []) (p' := 5) (by decide +kernel) rfl rfl rfl rfl (k_223 hw) rfl (fun f1 => ?_)
  refine ms_aload_n (k := 0) (p' := 6) (by decide +kernel) rfl rfl ?_
  refine ms_virt_u (idx := 306) (cy := yM_ups) (n := 0) (a := 223) (as := []) (rest := []) (p' := 9) (by decide +kernel) rfl rfl rfl rfl (k_223 hw) rfl (fun f2 => ?_)
  refine ms_aload_n (k := 0) (p' := 10) (by decide +kernel) rfl rfl ?_
  refine ms_iload_n (k := 1) (p' := 11) (by decide +kernel) rfl rfl ?_
  refine ms_virt_u (idx := 303) (cy := yM_whens) (n := 1) (a := 223) (as := [.inl x1]) (rest := []) (p' := 14) (by decide +kernel) rfl rfl rfl rfl (k_223 hw) rfl (fun f3 => ?_)
  exact ms_vret (by decide +kernel)
theorem c_M_numberOf {sw : Bool} {w : mj_W} (hw : wk sw w) (f : mj_F) (x0 : Int)  : mj_call yM_numberOf w f [.inl x0] = some (w, f, some (.inl (mj_shr x0 1))) := by
  show mj_run yM_numberOf w f 0 [.inl x0] [] = _
  refine ms_iload_n (k := 0) (p' := 1) (by decide +kernel) rfl rfl ?_
  refine ms_iconst (n := 1) (v := 1) (p' := 2) (by decide +kernel) rfl ?_
  refine ms_ishr (p' := 3) (by decide +kernel) rfl ?_
  exact ms_iret (by decide +kernel)
theorem c_M_roughens {sw : Bool} {w : mj_W} (hw : wk sw w) (f : mj_F)   : mj_call yM_roughens w f [.inr (.inl 223)] = if (f 223 53) = 0 then mj_run yM_roughens w f 10 [.inr (.inl 223), .inl 0, .inr (.inr (.inr 0)), .inr (.inr (.inr 0))] [] else some (w, f, none) := by
  show mj_run yM_roughens w f 0 [.inr (.inl 223), .inr (.inr (.inr 0)), .inr (.inr (.inr 0)), .inr (.inr (.inr 0))] [] = _
  refine ms_aload_n (k := 0) (p' := 1) (by decide +kernel) rfl rfl ?_
  refine ms_geti (idx := 289) (ci := 9) (k := 53) (q := 1444) (p' := 4) (by decide +kernel) rfl (k_223 hw) ?_
  refine ms_if_eq (off := 4) (t := 8) (p' := 7) (by decide +kernel) rfl (fun hc => ?_) (fun hc => ?_)
  · refine ms_iconst (n := 0) (v := 0) (p' := 9) (by decide +kernel) rfl ?_
    refine ms_istore_n (k := 1) (ls' := [.inr (.inl 223), .inl 0, .inr (.inr (.inr 0)), .inr (.inr (.inr 0))]) (p' := 10) (by decide +kernel) rfl (Nat.le_of_ble_eq_true rfl) rfl ?_
    rfl
  · exact ms_vret (by decide +kernel)
theorem l_M_roughens_10 {sw : Bool} {w : mj_W} (hw : wk sw w) (f : mj_F) (x1 : Int) (u2 : mj_V) (u3 : mj_V)  : mj_run yM_roughens w f 10 [.inr (.inl 223), .inl x1, u2, u3] [] = if (f 223 52) ≤ x1 then mj_bu (mj_call yM_closes w f [.inr (.inl 223)]) (fun f1 => some (w, f1, none)) else mj_run yM_roughens w f 20 [.inr (.inl 223), .inl x1, .inl 0, u3] [] := by
  refine ms_iload_n (k := 1) (p' := 11) (by decide +kernel) rfl rfl ?_
  refine ms_aload_n (k := 0) (p' := 12) (by decide +kernel) rfl rfl ?_
  refine ms_geti (idx := 280) (ci := 9) (k := 52) (q := 1443) (p' := 15) (by decide +kernel) rfl (k_223 hw) ?_
  refine ms_icmp_ge (off := 101) (t := 116) (p' := 18) (by decide +kernel) rfl (fun hc => ?_) (fun hc => ?_)
  · refine ms_aload_n (k := 0) (p' := 117) (by decide +kernel) rfl rfl ?_
    refine ms_virt_u (idx := 300) (cy := yM_closes) (n := 0) (a := 223) (as := []) (rest := []) (p' := 120) (by decide +kernel) rfl rfl rfl rfl (k_223 hw) rfl (fun f1 => ?_)
    exact ms_vret (by decide +kernel)
  · refine ms_iconst (n := 0) (v := 0) (p' := 19) (by decide +kernel) rfl ?_
    refine ms_istore_n (k := 2) (ls' := [.inr (.inl 223), .inl x1, .inl 0, u3]) (p' := 20) (by decide +kernel) rfl (Nat.le_of_ble_eq_true rfl) rfl ?_
    rfl
theorem l_M_roughens_20 {sw : Bool} {w : mj_W} (hw : wk sw w) (f : mj_F) (x1 : Int) (x2 : Int) (u3 : mj_V)  : mj_run yM_roughens w f 20 [.inr (.inl 223), .inl x1, .inl x2, u3] [] = if (f 223 52) ≤ x2 then mj_run yM_roughens w f 10 [.inr (.inl 223), .inl (mj_w (x1 + 1)), .inl x2, u3] [] else mj_bi (mj_call yM_get w f [.inr (.inl 223), .inl x1, .inl x2]) (fun f2 v3 => if x1 = x2 then mj_run yM_roughens w f2 20 [.inr (.inl 223), .inl x1, .inl (mj_w (x2 + 1)), .inl v3] [] else if v3 < 1000000 then mj_bi (mj_call yM_numberOf w f2 [.inl v3]) (fun f4 v5 => mj_gd (0 ≤ x1 ∧ x1 < ((5 : Nat) : Int)) (if v5 ≤ (f4 233 x1.toNat) then mj_bi (mj_call yM_numberOf w f4 [.inl v3]) (fun f7 v8 => mj_gd (0 ≤ x2 ∧ x2 < ((5 : Nat) : Int)) (if (mj_w (-(f7 233 x2.toNat))) ≤ v8 then mj_run yM_roughens w f7 20 [.inr (.inl 223), .inl x1, .inl (mj_w (x2 + 1)), .inl v3] [] else mj_gd (0 ≤ x2 ∧ x2 < ((5 : Nat) : Int)) (mj_bu (mj_call yM_put w f7 [.inr (.inl 223), .inl x1, .inl x2, .inl (mj_w ((-2) * (f7 233 x2.toNat)))]) (fun f11 => mj_run yM_roughens w f11 20 [.inr (.inl 223), .inl x1, .inl (mj_w (x2 + 1)), .inl v3] [])))) else mj_bu (mj_call yM_put w f4 [.inr (.inl 223), .inl x1, .inl x2, .inl 1000000]) (fun f12 => mj_run yM_roughens w f12 20 [.inr (.inl 223), .inl x1, .inl (mj_w (x2 + 1)), .inl v3] []))) else mj_run yM_roughens w f2 20 [.inr (.inl 223), .inl x1, .inl (mj_w (x2 + 1)), .inl v3] []) := by
  refine ms_iload_n (k := 2) (p' := 21) (by decide +kernel) rfl rfl ?_
  refine ms_aload_n (k := 0) (p' := 22) (by decide +kernel) rfl rfl ?_
  refine ms_geti (idx := 280) (ci := 9) (k := 52) (q := 1443) (p' := 25) (by decide +kernel) rfl (k_223 hw) ?_
  refine ms_icmp_ge (off := 85) (t := 110) (p' := 28) (by decide +kernel) rfl (fun hc => ?_) (fun hc => ?_)
  · refine ms_iinc (k := 1) (n := 1) (ls' := [.inr (.inl 223), .inl (mj_w (x1 + 1)), .inl x2, u3]) (p' := 113) (by decide +kernel) rfl rfl rfl ?_
    refine ms_goto (off := (-103)) (p' := 10) (by decide +kernel) ?_
    rfl
  · refine ms_aload_n (k := 0) (p' := 29) (by decide +kernel) rfl rfl ?_
    refine ms_iload_n (k := 1) (p' := 30) (by decide +kernel) rfl rfl ?_
    refine ms_iload_n (k := 2) (p' := 31) (by decide +kernel) rfl rfl ?_
    refine ms_virt_i (idx := 272) (cy := yM_get) (n := 2) (a := 223) (as := [.inl x1, .inl x2]) (rest := []) (p' := 34) (by decide +kernel) rfl rfl rfl rfl (k_223 hw) rfl (fun f2 v3 => ?_)
    refine ms_istore_n (k := 3) (ls' := [.inr (.inl 223), .inl x1, .inl x2, .inl v3]) (p' := 35) (by decide +kernel) rfl (Nat.le_of_ble_eq_true rfl) rfl ?_
    refine ms_iload_n (k := 1) (p' := 36) (by decide +kernel) rfl rfl ?_
    refine ms_iload_n (k := 2) (p' := 37) (by decide +kernel) rfl rfl ?_
    refine ms_icmp_eq (off := 67) (t := 104) (p' := 40) (by decide +kernel) rfl (fun hc => ?_) (fun hc => ?_)
    · refine ms_iinc (k := 2) (n := 1) (ls' := [.inr (.inl 223), .inl x1, .inl (mj_w (x2 + 1)), .inl v3]) (p' := 107) (by decide +kernel) rfl rfl rfl ?_
      refine ms_goto (off := (-87)) (p' := 20) (by decide +kernel) ?_
      rfl
    · refine ms_iload_n (k := 3) (p' := 41) (by decide +kernel) rfl rfl ?_
      refine ms_ldc_w (idx := 271) (v := 1000000) (p' := 44) (by decide +kernel) rfl ?_
      refine ms_icmp_lt (off := 6) (t := 50) (p' := 47) (by decide +kernel) rfl (fun hc => ?_) (fun hc => ?_)
      · refine ms_iload_n (k := 3) (p' := 51) (by decide +kernel) rfl rfl ?_
        refine ms_stat_i (idx := 318) (cy := yM_numberOf) (n := 1) (as := [.inl v3]) (rest := []) (p' := 54) (by decide +kernel) rfl rfl rfl rfl rfl (fun f4 v5 => ?_)
        refine ms_aload_n (k := 0) (p' := 55) (by decide +kernel) rfl rfl ?_
        refine ms_getr (idx := 41) (ci := 9) (k := 15) (q := 1406) (p' := 58) (by decide +kernel) rfl (k_223 hw) (r_223_15 hw) (by decide) ?_
        refine ms_iload_n (k := 1) (p' := 59) (by decide +kernel) rfl rfl ?_
        refine ms_iald (p' := 60) (by decide +kernel) rfl (k_233 hw) (fun hj6 => ?_)
        refine ms_icmp_le (off := 15) (t := 75) (p' := 63) (by decide +kernel) rfl (fun hc => ?_) (fun hc => ?_)
        · refine ms_iload_n (k := 3) (p' := 76) (by decide +kernel) rfl rfl ?_
          refine ms_stat_i (idx := 318) (cy := yM_numberOf) (n := 1) (as := [.inl v3]) (rest := []) (p' := 79) (by decide +kernel) rfl rfl rfl rfl rfl (fun f7 v8 => ?_)
          refine ms_aload_n (k := 0) (p' := 80) (by decide +kernel) rfl rfl ?_
          refine ms_getr (idx := 41) (ci := 9) (k := 15) (q := 1406) (p' := 83) (by decide +kernel) rfl (k_223 hw) (r_223_15 hw) (by decide) ?_
          refine ms_iload_n (k := 2) (p' := 84) (by decide +kernel) rfl rfl ?_
          refine ms_iald (p' := 85) (by decide +kernel) rfl (k_233 hw) (fun hj9 => ?_)
          refine ms_ineg (p' := 86) (by decide +kernel) rfl ?_
          refine ms_icmp_ge (off := 18) (t := 104) (p' := 89) (by decide +kernel) rfl (fun hc => ?_) (fun hc => ?_)
          · refine ms_iinc (k := 2) (n := 1) (ls' := [.inr (.inl 223), .inl x1, .inl (mj_w (x2 + 1)), .inl v3]) (p' := 107) (by decide +kernel) rfl rfl rfl ?_
            refine ms_goto (off := (-87)) (p' := 20) (by decide +kernel) ?_
            rfl
          · refine ms_aload_n (k := 0) (p' := 90) (by decide +kernel) rfl rfl ?_
            refine ms_iload_n (k := 1) (p' := 91) (by decide +kernel) rfl rfl ?_
            refine ms_iload_n (k := 2) (p' := 92) (by decide +kernel) rfl rfl ?_
            refine ms_bipush (n := (-2)) (v := (-2)) (p' := 94) (by decide +kernel) rfl ?_
            refine ms_aload_n (k := 0) (p' := 95) (by decide +kernel) rfl rfl ?_
            refine ms_getr (idx := 41) (ci := 9) (k := 15) (q := 1406) (p' := 98) (by decide +kernel) rfl (k_223 hw) (r_223_15 hw) (by decide) ?_
            refine ms_iload_n (k := 2) (p' := 99) (by decide +kernel) rfl rfl ?_
            refine ms_iald (p' := 100) (by decide +kernel) rfl (k_233 hw) (fun hj10 => ?_)
            refine ms_imul (p' := 101) (by decide +kernel) rfl ?_
            refine ms_virt_u (idx := 276) (cy := yM_put) (n := 3) (a := 223) (as := [.inl x1, .inl x2, .inl (mj_w ((-2) * (f7 233 x2.toNat)))]) (rest := []) (p' := 104) (by decide +kernel) rfl rfl rfl rfl (k_223 hw) rfl (fun f11 => ?_)
            refine ms_iinc (k := 2) (n := 1) (ls' := [.inr (.inl 223), .inl x1, .inl (mj_w (x2 + 1)), .inl v3]) (p' := 107) (by decide +kernel) rfl rfl rfl ?_
            refine ms_goto (off := (-87)) (p' := 20) (by decide +kernel) ?_
            rfl
        · refine ms_aload_n (k := 0) (p' := 64) (by decide +kernel) rfl rfl ?_
          refine ms_iload_n (k := 1) (p' := 65) (by decide +kernel) rfl rfl ?_
          refine ms_iload_n (k := 2) (p' := 66) (by decide +kernel) rfl rfl ?_
          refine ms_ldc_w (idx := 271) (v := 1000000) (p' := 69) (by decide +kernel) rfl ?_
          refine ms_virt_u (idx := 276) (cy := yM_put) (n := 3) (a := 223) (as := [.inl x1, .inl x2, .inl 1000000]) (rest := []) (p' := 72) (by decide +kernel) rfl rfl rfl rfl (k_223 hw) rfl (fun f12 => ?_)
          refine ms_goto (off := 32) (p' := 104) (by decide +kernel) ?_
          refine ms_iinc (k := 2) (n := 1) (ls' := [.inr (.inl 223), .inl x1, .inl (mj_w (x2 + 1)), .inl v3]) (p' := 107) (by decide +kernel) rfl rfl rfl ?_
          refine ms_goto (off := (-87)) (p' := 20) (by decide +kernel) ?_
          rfl
      · refine ms_goto (off := 57) (p' := 104) (by decide +kernel) ?_
        refine ms_iinc (k := 2) (n := 1) (ls' := [.inr (.inl 223), .inl x1, .inl (mj_w (x2 + 1)), .inl v3]) (p' := 107) (by decide +kernel) rfl rfl rfl ?_
        refine ms_goto (off := (-87)) (p' := 20) (by decide +kernel) ?_
        rfl
theorem c_M_adds {sw : Bool} {w : mj_W} (hw : wk sw w) (f : mj_F) (x1 : Int) (x2 : Int) (x3 : Int)  : mj_call yM_adds w f [.inr (.inl 223), .inl x1, .inl x2, .inl x3] = mj_gd (0 ≤ (f 223 23) ∧ (f 223 23) < ((60 : Nat) : Int)) (mj_gd (0 ≤ (mj_u f 236 (f 223 23).toNat x1 223 23) ∧ (mj_u f 236 (f 223 23).toNat x1 223 23) < ((60 : Nat) : Int)) (mj_gd (0 ≤ (mj_u (mj_u f 236 (f 223 23).toNat x1) 237 (mj_u f 236 (f 223 23).toNat x1 223 23).toNat x2 223 23) ∧ (mj_u (mj_u f 236 (f 223 23).toNat x1) 237 (mj_u f 236 (f 223 23).toNat x1 223 23).toNat x2 223 23) < ((60 : Nat) : Int)) (mj_run yM_adds w (mj_u (mj_u (mj_u f 236 (f 223 23).toNat x1) 237 (mj_u f 236 (f 223 23).toNat x1 223 23).toNat x2) 238 (mj_u (mj_u f 236 (f 223 23).toNat x1) 237 (mj_u f 236 (f 223 23).toNat x1 223 23).toNat x2 223 23).toNat x3) 33 [.inr (.inl 223), .inl x1, .inl x2, .inl x3, .inl 0, .inr (.inr (.inr 0))] []))) := by
  show mj_run yM_adds w f 0 [.inr (.inl 223), .inl x1, .inl x2, .inl x3, .inr (.inr (.inr 0)), .inr (.inr (.inr 0))] [] = _
  refine ms_aload_n (k := 0) (p' := 1) (by decide +kernel) rfl rfl ?_
  refine ms_getr (idx := 50) (ci := 9) (k := 19) (q := 1410) (p' := 4) (by decide +kernel) rfl (k_223 hw) (r_223_19 hw) (by decide) ?_
  refine ms_aload_n (k := 0) (p' := 5) (by decide +kernel) rfl rfl ?_
  refine ms_geti (idx := 374) (ci := 9) (k := 23) (q := 1414) (p' := 8) (by decide +kernel) rfl (k_223 hw) ?_
  refine ms_iload_n (k := 1) (p' := 9) (by decide +kernel) rfl rfl ?_
  refine ms_iast (p' := 10) (by decide +kernel) rfl (k_236 hw) (fun hj1 => ?_)
  refine ms_aload_n (k := 0) (p' := 11) (by decide +kernel) rfl rfl ?_
  refine ms_getr (idx := 53) (ci := 9) (k := 20) (q := 1411) (p' := 14) (by decide +kernel) rfl (k_223 hw) (r_223_20 hw) (by decide) ?_
  refine ms_aload_n (k := 0) (p' := 15) (by decide +kernel) rfl rfl ?_
  refine ms_geti (idx := 374) (ci := 9) (k := 23) (q := 1414) (p' := 18) (by decide +kernel) rfl (k_223 hw) ?_
  refine ms_iload_n (k := 2) (p' := 19) (by decide +kernel) rfl rfl ?_
  refine ms_iast (p' := 20) (by decide +kernel) rfl (k_237 hw) (fun hj2 => ?_)
  refine ms_aload_n (k := 0) (p' := 21) (by decide +kernel) rfl rfl ?_
  refine ms_getr (idx := 56) (ci := 9) (k := 21) (q := 1412) (p' := 24) (by decide +kernel) rfl (k_223 hw) (r_223_21 hw) (by decide) ?_
  refine ms_aload_n (k := 0) (p' := 25) (by decide +kernel) rfl rfl ?_
  refine ms_geti (idx := 374) (ci := 9) (k := 23) (q := 1414) (p' := 28) (by decide +kernel) rfl (k_223 hw) ?_
  refine ms_iload_n (k := 3) (p' := 29) (by decide +kernel) rfl rfl ?_
  refine ms_iast (p' := 30) (by decide +kernel) rfl (k_238 hw) (fun hj3 => ?_)
  refine ms_iconst (n := 0) (v := 0) (p' := 31) (by decide +kernel) rfl ?_
  refine ms_istore (k := 4) (ls' := [.inr (.inl 223), .inl x1, .inl x2, .inl x3, .inl 0, .inr (.inr (.inr 0))]) (p' := 33) (by decide +kernel) rfl (Nat.le_of_ble_eq_true rfl) rfl ?_
  rfl
theorem l_M_adds_33 {sw : Bool} {w : mj_W} (hw : wk sw w) (f : mj_F) (x1 : Int) (x2 : Int) (x3 : Int) (x4 : Int) (u5 : mj_V)  : mj_run yM_adds w f 33 [.inr (.inl 223), .inl x1, .inl x2, .inl x3, .inl x4, u5] [] = if (f 223 52) ≤ x4 then some (w, (mj_u f 223 23 (mj_w ((f 223 23) + 1))), none) else mj_run yM_adds w f 45 [.inr (.inl 223), .inl x1, .inl x2, .inl x3, .inl x4, .inl 0] [] := by
  refine ms_iload (k := 4) (p' := 35) (by decide +kernel) rfl rfl ?_
  refine ms_aload_n (k := 0) (p' := 36) (by decide +kernel) rfl rfl ?_
  refine ms_geti (idx := 280) (ci := 9) (k := 52) (q := 1443) (p' := 39) (by decide +kernel) rfl (k_223 hw) ?_
  refine ms_icmp_ge (off := 55) (t := 94) (p' := 42) (by decide +kernel) rfl (fun hc => ?_) (fun hc => ?_)
  · refine ms_aload_n (k := 0) (p' := 95) (by decide +kernel) rfl rfl ?_
    refine ms_dup_a (p' := 96) (by decide +kernel) rfl ?_
    refine ms_geti (idx := 374) (ci := 9) (k := 23) (q := 1414) (p' := 99) (by decide +kernel) rfl (k_223 hw) ?_
    refine ms_iconst (n := 1) (v := 1) (p' := 100) (by decide +kernel) rfl ?_
    refine ms_iadd (p' := 101) (by decide +kernel) rfl ?_
    refine ms_puti (idx := 374) (ci := 9) (k := 23) (q := 1414) (p' := 104) (by decide +kernel) rfl (k_223 hw) ?_
    exact ms_vret (by decide +kernel)
  · refine ms_iconst (n := 0) (v := 0) (p' := 43) (by decide +kernel) rfl ?_
    refine ms_istore (k := 5) (ls' := [.inr (.inl 223), .inl x1, .inl x2, .inl x3, .inl x4, .inl 0]) (p' := 45) (by decide +kernel) rfl (Nat.le_of_ble_eq_true rfl) rfl ?_
    rfl
theorem l_M_adds_45 {sw : Bool} {w : mj_W} (hw : wk sw w) (f : mj_F) (x1 : Int) (x2 : Int) (x3 : Int) (x4 : Int) (x5 : Int)  : mj_run yM_adds w f 45 [.inr (.inl 223), .inl x1, .inl x2, .inl x3, .inl x4, .inl x5] [] = if (f 223 52) ≤ x5 then mj_run yM_adds w f 33 [.inr (.inl 223), .inl x1, .inl x2, .inl x3, .inl (mj_w (x4 + 1)), .inl x5] [] else mj_bi (mj_call yM_get w f [.inr (.inl 223), .inl x4, .inl x5]) (fun f4 v5 => mj_gd (0 ≤ (mj_w ((mj_w ((mj_w (25 * (f 223 23))) + (mj_w (5 * x4)))) + x5)) ∧ (mj_w ((mj_w ((mj_w (25 * (f 223 23))) + (mj_w (5 * x4)))) + x5)) < ((1500 : Nat) : Int)) (mj_run yM_adds w (mj_u f4 239 (mj_w ((mj_w ((mj_w (25 * (f 223 23))) + (mj_w (5 * x4)))) + x5)).toNat v5) 45 [.inr (.inl 223), .inl x1, .inl x2, .inl x3, .inl x4, .inl (mj_w (x5 + 1))] [])) := by
  refine ms_iload (k := 5) (p' := 47) (by decide +kernel) rfl rfl ?_
  refine ms_aload_n (k := 0) (p' := 48) (by decide +kernel) rfl rfl ?_
  refine ms_geti (idx := 280) (ci := 9) (k := 52) (q := 1443) (p' := 51) (by decide +kernel) rfl (k_223 hw) ?_
  refine ms_icmp_ge (off := 37) (t := 88) (p' := 54) (by decide +kernel) rfl (fun hc => ?_) (fun hc => ?_)
  · refine ms_iinc (k := 4) (n := 1) (ls' := [.inr (.inl 223), .inl x1, .inl x2, .inl x3, .inl (mj_w (x4 + 1)), .inl x5]) (p' := 91) (by decide +kernel) rfl rfl rfl ?_
    refine ms_goto (off := (-58)) (p' := 33) (by decide +kernel) ?_
    rfl
  · refine ms_aload_n (k := 0) (p' := 55) (by decide +kernel) rfl rfl ?_
    refine ms_getr (idx := 59) (ci := 9) (k := 22) (q := 1413) (p' := 58) (by decide +kernel) rfl (k_223 hw) (r_223_22 hw) (by decide) ?_
    refine ms_bipush (n := 25) (v := 25) (p' := 60) (by decide +kernel) rfl ?_
    refine ms_aload_n (k := 0) (p' := 61) (by decide +kernel) rfl rfl ?_
    refine ms_geti (idx := 374) (ci := 9) (k := 23) (q := 1414) (p' := 64) (by decide +kernel) rfl (k_223 hw) ?_
    refine ms_imul (p' := 65) (by decide +kernel) rfl ?_
    refine ms_iconst (n := 5) (v := 5) (p' := 66) (by decide +kernel) rfl ?_
    refine ms_iload (k := 4) (p' := 68) (by decide +kernel) rfl rfl ?_
    refine ms_imul (p' := 69) (by decide +kernel) rfl ?_
    refine ms_iadd (p' := 70) (by decide +kernel) rfl ?_
    refine ms_iload (k := 5) (p' := 72) (by decide +kernel) rfl rfl ?_
    refine ms_iadd (p' := 73) (by decide +kernel) rfl ?_
    refine ms_aload_n (k := 0) (p' := 74) (by decide +kernel) rfl rfl ?_
    refine ms_iload (k := 4) (p' := 76) (by decide +kernel) rfl rfl ?_
    refine ms_iload (k := 5) (p' := 78) (by decide +kernel) rfl rfl ?_
    refine ms_virt_i (idx := 272) (cy := yM_get) (n := 2) (a := 223) (as := [.inl x4, .inl x5]) (rest := [.inl (mj_w ((mj_w ((mj_w (25 * (f 223 23))) + (mj_w (5 * x4)))) + x5)), .inr (.inl 239)]) (p' := 81) (by decide +kernel) rfl rfl rfl rfl (k_223 hw) rfl (fun f4 v5 => ?_)
    refine ms_iast (p' := 82) (by decide +kernel) rfl (k_239 hw) (fun hj6 => ?_)
    refine ms_iinc (k := 5) (n := 1) (ls' := [.inr (.inl 223), .inl x1, .inl x2, .inl x3, .inl x4, .inl (mj_w (x5 + 1))]) (p' := 85) (by decide +kernel) rfl rfl rfl ?_
    refine ms_goto (off := (-40)) (p' := 45) (by decide +kernel) ?_
    rfl
theorem c_M_loadsNode {sw : Bool} {w : mj_W} (hw : wk sw w) (f : mj_F) (x1 : Int)  : mj_call yM_loadsNode w f [.inr (.inl 223), .inl x1] = mj_run yM_loadsNode w (mj_u (mj_u f 223 52 (mj_w ((f 223 2) + 1))) 223 53 0) 17 [.inr (.inl 223), .inl x1, .inl 0, .inr (.inr (.inr 0))] [] := by
  show mj_run yM_loadsNode w f 0 [.inr (.inl 223), .inl x1, .inr (.inr (.inr 0)), .inr (.inr (.inr 0))] [] = _
  refine ms_aload_n (k := 0) (p' := 1) (by decide +kernel) rfl rfl ?_
  refine ms_aload_n (k := 0) (p' := 2) (by decide +kernel) rfl rfl ?_
  refine ms_geti (idx := 242) (ci := 9) (k := 2) (q := 1393) (p' := 5) (by decide +kernel) rfl (k_223 hw) ?_
  refine ms_iconst (n := 1) (v := 1) (p' := 6) (by decide +kernel) rfl ?_
  refine ms_iadd (p' := 7) (by decide +kernel) rfl ?_
  refine ms_puti (idx := 280) (ci := 9) (k := 52) (q := 1443) (p' := 10) (by decide +kernel) rfl (k_223 hw) ?_
  refine ms_aload_n (k := 0) (p' := 11) (by decide +kernel) rfl rfl ?_
  refine ms_iconst (n := 0) (v := 0) (p' := 12) (by decide +kernel) rfl ?_
  refine Eq.trans (ms_putz (idx := 289) (ci := 9) (k := 53) (q := 1444) (p' := 15) (by decide +kernel) rfl (k_223 hw) (fun _ => ?_)) (mj_gd_pos (by decide) _)
  refine ms_iconst (n := 0) (v := 0) (p' := 16) (by decide +kernel) rfl ?_
  refine ms_istore_n (k := 2) (ls' := [.inr (.inl 223), .inl x1, .inl 0, .inr (.inr (.inr 0))]) (p' := 17) (by decide +kernel) rfl (Nat.le_of_ble_eq_true rfl) rfl ?_
  rfl
theorem l_M_loadsNode_17 {sw : Bool} {w : mj_W} (hw : wk sw w) (f : mj_F) (x1 : Int) (x2 : Int) (u3 : mj_V)  : mj_run yM_loadsNode w f 17 [.inr (.inl 223), .inl x1, .inl x2, u3] [] = if (f 223 52) ≤ x2 then some (w, f, none) else mj_run yM_loadsNode w f 27 [.inr (.inl 223), .inl x1, .inl x2, .inl 0] [] := by
  refine ms_iload_n (k := 2) (p' := 18) (by decide +kernel) rfl rfl ?_
  refine ms_aload_n (k := 0) (p' := 19) (by decide +kernel) rfl rfl ?_
  refine ms_geti (idx := 280) (ci := 9) (k := 52) (q := 1443) (p' := 22) (by decide +kernel) rfl (k_223 hw) ?_
  refine ms_icmp_ge (off := 46) (t := 68) (p' := 25) (by decide +kernel) rfl (fun hc => ?_) (fun hc => ?_)
  · exact ms_vret (by decide +kernel)
  · refine ms_iconst (n := 0) (v := 0) (p' := 26) (by decide +kernel) rfl ?_
    refine ms_istore_n (k := 3) (ls' := [.inr (.inl 223), .inl x1, .inl x2, .inl 0]) (p' := 27) (by decide +kernel) rfl (Nat.le_of_ble_eq_true rfl) rfl ?_
    rfl
theorem l_M_loadsNode_27 {sw : Bool} {w : mj_W} (hw : wk sw w) (f : mj_F) (x1 : Int) (x2 : Int) (x3 : Int)  : mj_run yM_loadsNode w f 27 [.inr (.inl 223), .inl x1, .inl x2, .inl x3] [] = if (f 223 52) ≤ x3 then mj_run yM_loadsNode w f 17 [.inr (.inl 223), .inl x1, .inl (mj_w (x2 + 1)), .inl x3] [] else mj_gd (0 ≤ (mj_w ((mj_w ((mj_w (25 * x1)) + (mj_w (5 * x2)))) + x3)) ∧ (mj_w ((mj_w ((mj_w (25 * x1)) + (mj_w (5 * x2)))) + x3)) < ((1500 : Nat) : Int)) (mj_bu (mj_call yM_put w f [.inr (.inl 223), .inl x2, .inl x3, .inl (f 239 (mj_w ((mj_w ((mj_w (25 * x1)) + (mj_w (5 * x2)))) + x3)).toNat)]) (fun f2 => mj_run yM_loadsNode w f2 27 [.inr (.inl 223), .inl x1, .inl x2, .inl (mj_w (x3 + 1))] [])) := by
  refine ms_iload_n (k := 3) (p' := 28) (by decide +kernel) rfl rfl ?_
  refine ms_aload_n (k := 0) (p' := 29) (by decide +kernel) rfl rfl ?_
  refine ms_geti (idx := 280) (ci := 9) (k := 52) (q := 1443) (p' := 32) (by decide +kernel) rfl (k_223 hw) ?_
  refine ms_icmp_ge (off := 30) (t := 62) (p' := 35) (by decide +kernel) rfl (fun hc => ?_) (fun hc => ?_)
  · refine ms_iinc (k := 2) (n := 1) (ls' := [.inr (.inl 223), .inl x1, .inl (mj_w (x2 + 1)), .inl x3]) (p' := 65) (by decide +kernel) rfl rfl rfl ?_
    refine ms_goto (off := (-48)) (p' := 17) (by decide +kernel) ?_
    rfl
  · refine ms_aload_n (k := 0) (p' := 36) (by decide +kernel) rfl rfl ?_
    refine ms_iload_n (k := 2) (p' := 37) (by decide +kernel) rfl rfl ?_
    refine ms_iload_n (k := 3) (p' := 38) (by decide +kernel) rfl rfl ?_
    refine ms_aload_n (k := 0) (p' := 39) (by decide +kernel) rfl rfl ?_
    refine ms_getr (idx := 59) (ci := 9) (k := 22) (q := 1413) (p' := 42) (by decide +kernel) rfl (k_223 hw) (r_223_22 hw) (by decide) ?_
    refine ms_bipush (n := 25) (v := 25) (p' := 44) (by decide +kernel) rfl ?_
    refine ms_iload_n (k := 1) (p' := 45) (by decide +kernel) rfl rfl ?_
    refine ms_imul (p' := 46) (by decide +kernel) rfl ?_
    refine ms_iconst (n := 5) (v := 5) (p' := 47) (by decide +kernel) rfl ?_
    refine ms_iload_n (k := 2) (p' := 48) (by decide +kernel) rfl rfl ?_
    refine ms_imul (p' := 49) (by decide +kernel) rfl ?_
    refine ms_iadd (p' := 50) (by decide +kernel) rfl ?_
    refine ms_iload_n (k := 3) (p' := 51) (by decide +kernel) rfl rfl ?_
    refine ms_iadd (p' := 52) (by decide +kernel) rfl ?_
    refine ms_iald (p' := 53) (by decide +kernel) rfl (k_239 hw) (fun hj1 => ?_)
    refine ms_virt_u (idx := 276) (cy := yM_put) (n := 3) (a := 223) (as := [.inl x2, .inl x3, .inl (f 239 (mj_w ((mj_w ((mj_w (25 * x1)) + (mj_w (5 * x2)))) + x3)).toNat)]) (rest := []) (p' := 56) (by decide +kernel) rfl rfl rfl rfl (k_223 hw) rfl (fun f2 => ?_)
    refine ms_iinc (k := 3) (n := 1) (ls' := [.inr (.inl 223), .inl x1, .inl x2, .inl (mj_w (x3 + 1))]) (p' := 59) (by decide +kernel) rfl rfl rfl ?_
    refine ms_goto (off := (-32)) (p' := 27) (by decide +kernel) ?_
    rfl
theorem c_M_sets {sw : Bool} {w : mj_W} (hw : wk sw w) (f : mj_F) (x1 : Int) (x2 : Int)  : mj_call yM_sets w f [.inr (.inl 223), .inl x1, .inl x2] = mj_run yM_sets w f 2 [.inr (.inl 223), .inl x1, .inl x2, .inl 0] [] := by
  show mj_run yM_sets w f 0 [.inr (.inl 223), .inl x1, .inl x2, .inr (.inr (.inr 0))] [] = _
  refine ms_iconst (n := 0) (v := 0) (p' := 1) (by decide +kernel) rfl ?_
  refine ms_istore_n (k := 3) (ls' := [.inr (.inl 223), .inl x1, .inl x2, .inl 0]) (p' := 2) (by decide +kernel) rfl (Nat.le_of_ble_eq_true rfl) rfl ?_
  rfl
theorem l_M_sets_2 {sw : Bool} {w : mj_W} (hw : wk sw w) (f : mj_F) (x1 : Int) (x2 : Int) (x3 : Int)  : mj_run yM_sets w f 2 [.inr (.inl 223), .inl x1, .inl x2, .inl x3] [] = if (f 223 52) ≤ x3 then some (w, f, none) else if ¬ x3 = x1 then mj_bi (mj_call yM_reachedS w f [.inl x2]) (fun f1 v2 => mj_bi (mj_call yM_get w f1 [.inr (.inl 223), .inl 0, .inl x3]) (fun f3 v4 => mj_bi (mj_call yM_plus w f3 [.inl v2, .inl v4]) (fun f5 v6 => mj_bu (mj_call yM_put w f5 [.inr (.inl 223), .inl x1, .inl x3, .inl v6]) (fun f7 => mj_bi (mj_call yM_get w f7 [.inr (.inl 223), .inl x3, .inl 0]) (fun f8 v9 => mj_bi (mj_call yM_reachedS w f8 [.inl (mj_w (-x2))]) (fun f10 v11 => mj_bi (mj_call yM_plus w f10 [.inl v9, .inl v11]) (fun f12 v13 => mj_bu (mj_call yM_put w f12 [.inr (.inl 223), .inl x3, .inl x1, .inl v13]) (fun f14 => mj_run yM_sets w f14 2 [.inr (.inl 223), .inl x1, .inl x2, .inl (mj_w (x3 + 1))] [])))))))) else mj_run yM_sets w f 2 [.inr (.inl 223), .inl x1, .inl x2, .inl (mj_w (x3 + 1))] [] := by
  refine ms_iload_n (k := 3) (p' := 3) (by decide +kernel) rfl rfl ?_
  refine ms_aload_n (k := 0) (p' := 4) (by decide +kernel) rfl rfl ?_
  refine ms_geti (idx := 280) (ci := 9) (k := 52) (q := 1443) (p' := 7) (by decide +kernel) rfl (k_223 hw) ?_
  refine ms_icmp_ge (off := 56) (t := 63) (p' := 10) (by decide +kernel) rfl (fun hc => ?_) (fun hc => ?_)
  · exact ms_vret (by decide +kernel)
  · refine ms_iload_n (k := 3) (p' := 11) (by decide +kernel) rfl rfl ?_
    refine ms_iload_n (k := 1) (p' := 12) (by decide +kernel) rfl rfl ?_
    refine ms_icmp_ne (off := 6) (t := 18) (p' := 15) (by decide +kernel) rfl (fun hc => ?_) (fun hc => ?_)
    · refine ms_aload_n (k := 0) (p' := 19) (by decide +kernel) rfl rfl ?_
      refine ms_iload_n (k := 1) (p' := 20) (by decide +kernel) rfl rfl ?_
      refine ms_iload_n (k := 3) (p' := 21) (by decide +kernel) rfl rfl ?_
      refine ms_iload_n (k := 2) (p' := 22) (by decide +kernel) rfl rfl ?_
      refine ms_stat_i (idx := 292) (cy := yM_reachedS) (n := 1) (as := [.inl x2]) (rest := [.inl x3, .inl x1, .inr (.inl 223)]) (p' := 25) (by decide +kernel) rfl rfl rfl rfl rfl (fun f1 v2 => ?_)
      refine ms_aload_n (k := 0) (p' := 26) (by decide +kernel) rfl rfl ?_
      refine ms_iconst (n := 0) (v := 0) (p' := 27) (by decide +kernel) rfl ?_
      refine ms_iload_n (k := 3) (p' := 28) (by decide +kernel) rfl rfl ?_
      refine ms_virt_i (idx := 272) (cy := yM_get) (n := 2) (a := 223) (as := [.inl 0, .inl x3]) (rest := [.inl v2, .inl x3, .inl x1, .inr (.inl 223)]) (p' := 31) (by decide +kernel) rfl rfl rfl rfl (k_223 hw) rfl (fun f3 v4 => ?_)
      refine ms_stat_i (idx := 283) (cy := yM_plus) (n := 2) (as := [.inl v2, .inl v4]) (rest := [.inl x3, .inl x1, .inr (.inl 223)]) (p' := 34) (by decide +kernel) rfl rfl rfl rfl rfl (fun f5 v6 => ?_)
      refine ms_virt_u (idx := 276) (cy := yM_put) (n := 3) (a := 223) (as := [.inl x1, .inl x3, .inl v6]) (rest := []) (p' := 37) (by decide +kernel) rfl rfl rfl rfl (k_223 hw) rfl (fun f7 => ?_)
      refine ms_aload_n (k := 0) (p' := 38) (by decide +kernel) rfl rfl ?_
      refine ms_iload_n (k := 3) (p' := 39) (by decide +kernel) rfl rfl ?_
      refine ms_iload_n (k := 1) (p' := 40) (by decide +kernel) rfl rfl ?_
      refine ms_aload_n (k := 0) (p' := 41) (by decide +kernel) rfl rfl ?_
      refine ms_iload_n (k := 3) (p' := 42) (by decide +kernel) rfl rfl ?_
      refine ms_iconst (n := 0) (v := 0) (p' := 43) (by decide +kernel) rfl ?_
      refine ms_virt_i (idx := 272) (cy := yM_get) (n := 2) (a := 223) (as := [.inl x3, .inl 0]) (rest := [.inl x1, .inl x3, .inr (.inl 223)]) (p' := 46) (by decide +kernel) rfl rfl rfl rfl (k_223 hw) rfl (fun f8 v9 => ?_)
      refine ms_iload_n (k := 2) (p' := 47) (by decide +kernel) rfl rfl ?_
      refine ms_ineg (p' := 48) (by decide +kernel) rfl ?_
      refine ms_stat_i (idx := 292) (cy := yM_reachedS) (n := 1) (as := [.inl (mj_w (-x2))]) (rest := [.inl v9, .inl x1, .inl x3, .inr (.inl 223)]) (p' := 51) (by decide +kernel) rfl rfl rfl rfl rfl (fun f10 v11 => ?_)
      refine ms_stat_i (idx := 283) (cy := yM_plus) (n := 2) (as := [.inl v9, .inl v11]) (rest := [.inl x1, .inl x3, .inr (.inl 223)]) (p' := 54) (by decide +kernel) rfl rfl rfl rfl rfl (fun f12 v13 => ?_)
      refine ms_virt_u (idx := 276) (cy := yM_put) (n := 3) (a := 223) (as := [.inl x3, .inl x1, .inl v13]) (rest := []) (p' := 57) (by decide +kernel) rfl rfl rfl rfl (k_223 hw) rfl (fun f14 => ?_)
      refine ms_iinc (k := 3) (n := 1) (ls' := [.inr (.inl 223), .inl x1, .inl x2, .inl (mj_w (x3 + 1))]) (p' := 60) (by decide +kernel) rfl rfl rfl ?_
      refine ms_goto (off := (-58)) (p' := 2) (by decide +kernel) ?_
      rfl
    · refine ms_goto (off := 42) (p' := 57) (by decide +kernel) ?_
      refine ms_iinc (k := 3) (n := 1) (ls' := [.inr (.inl 223), .inl x1, .inl x2, .inl (mj_w (x3 + 1))]) (p' := 60) (by decide +kernel) rfl rfl rfl ?_
      refine ms_goto (off := (-58)) (p' := 2) (by decide +kernel) ?_
      rfl
theorem c_M_steps {sw : Bool} {w : mj_W} (hw : wk sw w) (f : mj_F) (x1 : Int)  : mj_call yM_steps w f [.inr (.inl 223), .inl x1] = mj_bu (mj_call yM_whens w f [.inr (.inl 223), .inl (mj_w (8 + x1))]) (fun f1 => mj_run yM_steps w f1 12 [.inr (.inl 223), .inl x1, .inl (mj_w (4 * x1))] []) := by
  show mj_run yM_steps w f 0 [.inr (.inl 223), .inl x1, .inr (.inr (.inr 0))] [] = _
  refine ms_aload_n (k := 0) (p' := 1) (by decide +kernel) rfl rfl ?_
  refine ms_bipush (n := 8) (v := 8) (p' := 3) (by decide +kernel) rfl ?_
  refine ms_iload_n (k := 1) (p' := 4) (by decide +kernel) rfl rfl ?_
  refine ms_iadd (p' := 5) (by decide +kernel) rfl ?_
  refine ms_virt_u (idx := 303) (cy := yM_whens) (n := 1) (a := 223) (as := [.inl (mj_w (8 + x1))]) (rest := []) (p' := 8) (by decide +kernel) rfl rfl rfl rfl (k_223 hw) rfl (fun f1 => ?_)
  refine ms_iconst (n := 4) (v := 4) (p' := 9) (by decide +kernel) rfl ?_
  refine ms_iload_n (k := 1) (p' := 10) (by decide +kernel) rfl rfl ?_
  refine ms_imul (p' := 11) (by decide +kernel) rfl ?_
  refine ms_istore_n (k := 2) (ls' := [.inr (.inl 223), .inl x1, .inl (mj_w (4 * x1))]) (p' := 12) (by decide +kernel) rfl (Nat.le_of_ble_eq_true rfl) rfl ?_
  rfl
theorem l_M_steps_12 {sw : Bool} {w : mj_W} (hw : wk sw w) (f : mj_F) (x1 : Int) (x2 : Int)  : mj_run yM_steps w f 12 [.inr (.inl 223), .inl x1, .inl x2] [] = mj_gd (0 ≤ x1 ∧ x1 < ((16 : Nat) : Int)) (if (mj_w ((mj_w (4 * x1)) + (f 230 x1.toNat))) ≤ x2 then mj_gd (0 ≤ x1 ∧ x1 < ((16 : Nat) : Int)) (mj_bu (mj_call yM_stays w f [.inr (.inl 223), .inl (f 229 x1.toNat)]) (fun f4 => some (w, f4, none))) else mj_gd (0 ≤ x2 ∧ x2 < ((64 : Nat) : Int)) (mj_gd (0 ≤ x2 ∧ x2 < ((64 : Nat) : Int)) (mj_bu (mj_call yM_sets w f [.inr (.inl 223), .inl (mj_w ((f 231 x2.toNat) + 1)), .inl (f 232 x2.toNat)]) (fun f7 => mj_run yM_steps w f7 12 [.inr (.inl 223), .inl x1, .inl (mj_w (x2 + 1))] [])))) := by
  refine ms_iload_n (k := 2) (p' := 13) (by decide +kernel) rfl rfl ?_
  refine ms_iconst (n := 4) (v := 4) (p' := 14) (by decide +kernel) rfl ?_
  refine ms_iload_n (k := 1) (p' := 15) (by decide +kernel) rfl rfl ?_
  refine ms_imul (p' := 16) (by decide +kernel) rfl ?_
  refine ms_aload_n (k := 0) (p' := 17) (by decide +kernel) rfl rfl ?_
  refine ms_getr (idx := 32) (ci := 9) (k := 12) (q := 1403) (p' := 20) (by decide +kernel) rfl (k_223 hw) (r_223_12 hw) (by decide) ?_
  refine ms_iload_n (k := 1) (p' := 21) (by decide +kernel) rfl rfl ?_
  refine ms_iald (p' := 22) (by decide +kernel) rfl (k_230 hw) (fun hj2 => ?_)
  refine ms_iadd (p' := 23) (by decide +kernel) rfl ?_
  refine ms_icmp_ge (off := 27) (t := 50) (p' := 26) (by decide +kernel) rfl (fun hc => ?_) (fun hc => ?_)
  · refine ms_aload_n (k := 0) (p' := 51) (by decide +kernel) rfl rfl ?_
    refine ms_aload_n (k := 0) (p' := 52) (by decide +kernel) rfl rfl ?_
    refine ms_getr (idx := 29) (ci := 9) (k := 11) (q := 1402) (p' := 55) (by decide +kernel) rfl (k_223 hw) (r_223_11 hw) (by decide) ?_
    refine ms_iload_n (k := 1) (p' := 56) (by decide +kernel) rfl rfl ?_
    refine ms_iald (p' := 57) (by decide +kernel) rfl (k_229 hw) (fun hj3 => ?_)
    refine ms_virt_u (idx := 312) (cy := yM_stays) (n := 1) (a := 223) (as := [.inl (f 229 x1.toNat)]) (rest := []) (p' := 60) (by decide +kernel) rfl rfl rfl rfl (k_223 hw) rfl (fun f4 => ?_)
    exact ms_vret (by decide +kernel)
  · refine ms_aload_n (k := 0) (p' := 27) (by decide +kernel) rfl rfl ?_
    refine ms_aload_n (k := 0) (p' := 28) (by decide +kernel) rfl rfl ?_
    refine ms_getr (idx := 35) (ci := 9) (k := 13) (q := 1404) (p' := 31) (by decide +kernel) rfl (k_223 hw) (r_223_13 hw) (by decide) ?_
    refine ms_iload_n (k := 2) (p' := 32) (by decide +kernel) rfl rfl ?_
    refine ms_iald (p' := 33) (by decide +kernel) rfl (k_231 hw) (fun hj5 => ?_)
    refine ms_iconst (n := 1) (v := 1) (p' := 34) (by decide +kernel) rfl ?_
    refine ms_iadd (p' := 35) (by decide +kernel) rfl ?_
    refine ms_aload_n (k := 0) (p' := 36) (by decide +kernel) rfl rfl ?_
    refine ms_getr (idx := 38) (ci := 9) (k := 14) (q := 1405) (p' := 39) (by decide +kernel) rfl (k_223 hw) (r_223_14 hw) (by decide) ?_
    refine ms_iload_n (k := 2) (p' := 40) (by decide +kernel) rfl rfl ?_
    refine ms_iald (p' := 41) (by decide +kernel) rfl (k_232 hw) (fun hj6 => ?_)
    refine ms_virt_u (idx := 309) (cy := yM_sets) (n := 2) (a := 223) (as := [.inl (mj_w ((f 231 x2.toNat) + 1)), .inl (f 232 x2.toNat)]) (rest := []) (p' := 44) (by decide +kernel) rfl rfl rfl rfl (k_223 hw) rfl (fun f7 => ?_)
    refine ms_iinc (k := 2) (n := 1) (ls' := [.inr (.inl 223), .inl x1, .inl (mj_w (x2 + 1))]) (p' := 47) (by decide +kernel) rfl rfl rfl ?_
    refine ms_goto (off := (-35)) (p' := 12) (by decide +kernel) ?_
    rfl
theorem c_M_isInside {sw : Bool} {w : mj_W} (hw : wk sw w) (f : mj_F) (r1 nr1 : Nat) (x2 : Int) (hr1 : w.1 r1 = (100, nr1)) : mj_call yM_isInside w f [.inr (.inl 223), .inr (.inl r1), .inl x2] = mj_run yM_isInside w f 2 [.inr (.inl 223), .inr (.inl r1), .inl x2, .inl 0, .inr (.inr (.inr 0))] [] := by
  show mj_run yM_isInside w f 0 [.inr (.inl 223), .inr (.inl r1), .inl x2, .inr (.inr (.inr 0)), .inr (.inr (.inr 0))] [] = _
  refine ms_iconst (n := 0) (v := 0) (p' := 1) (by decide +kernel) rfl ?_
  refine ms_istore_n (k := 3) (ls' := [.inr (.inl 223), .inr (.inl r1), .inl x2, .inl 0, .inr (.inr (.inr 0))]) (p' := 2) (by decide +kernel) rfl (Nat.le_of_ble_eq_true rfl) rfl ?_
  rfl
theorem l_M_isInside_2 {sw : Bool} {w : mj_W} (hw : wk sw w) (f : mj_F) (r1 nr1 : Nat) (x2 : Int) (x3 : Int) (u4 : mj_V) (hr1 : w.1 r1 = (100, nr1)) : mj_run yM_isInside w f 2 [.inr (.inl 223), .inr (.inl r1), .inl x2, .inl x3, u4] [] = if (f 223 52) ≤ x3 then some (w, f, some (.inl 1)) else mj_run yM_isInside w f 13 [.inr (.inl 223), .inr (.inl r1), .inl x2, .inl x3, .inl 0] [] := by
  refine ms_iload_n (k := 3) (p' := 3) (by decide +kernel) rfl rfl ?_
  refine ms_aload_n (k := 0) (p' := 4) (by decide +kernel) rfl rfl ?_
  refine ms_geti (idx := 280) (ci := 9) (k := 52) (q := 1443) (p' := 7) (by decide +kernel) rfl (k_223 hw) ?_
  refine ms_icmp_ge (off := 49) (t := 56) (p' := 10) (by decide +kernel) rfl (fun hc => ?_) (fun hc => ?_)
  · refine ms_iconst (n := 1) (v := 1) (p' := 57) (by decide +kernel) rfl ?_
    exact (ms_zret (by decide +kernel)).trans (mj_gd_pos (by decide) _)
  · refine ms_iconst (n := 0) (v := 0) (p' := 11) (by decide +kernel) rfl ?_
    refine ms_istore (k := 4) (ls' := [.inr (.inl 223), .inr (.inl r1), .inl x2, .inl x3, .inl 0]) (p' := 13) (by decide +kernel) rfl (Nat.le_of_ble_eq_true rfl) rfl ?_
    rfl
theorem l_M_isInside_13 {sw : Bool} {w : mj_W} (hw : wk sw w) (f : mj_F) (r1 nr1 : Nat) (x2 : Int) (x3 : Int) (x4 : Int) (hr1 : w.1 r1 = (100, nr1)) : mj_run yM_isInside w f 13 [.inr (.inl 223), .inr (.inl r1), .inl x2, .inl x3, .inl x4] [] = if (f 223 52) ≤ x4 then mj_run yM_isInside w f 2 [.inr (.inl 223), .inr (.inl r1), .inl x2, .inl (mj_w (x3 + 1)), .inl x4] [] else mj_bi (mj_call yM_get w f [.inr (.inl 223), .inl x3, .inl x4]) (fun f1 v2 => mj_gd (0 ≤ (mj_w ((mj_w (x2 + (mj_w (5 * x3)))) + x4)) ∧ (mj_w ((mj_w (x2 + (mj_w (5 * x3)))) + x4)) < ((nr1 : Nat) : Int)) (if v2 ≤ (f1 r1 (mj_w ((mj_w (x2 + (mj_w (5 * x3)))) + x4)).toNat) then mj_run yM_isInside w f1 13 [.inr (.inl 223), .inr (.inl r1), .inl x2, .inl x3, .inl (mj_w (x4 + 1))] [] else some (w, f1, some (.inl 0)))) := by
  refine ms_iload (k := 4) (p' := 15) (by decide +kernel) rfl rfl ?_
  refine ms_aload_n (k := 0) (p' := 16) (by decide +kernel) rfl rfl ?_
  refine ms_geti (idx := 280) (ci := 9) (k := 52) (q := 1443) (p' := 19) (by decide +kernel) rfl (k_223 hw) ?_
  refine ms_icmp_ge (off := 31) (t := 50) (p' := 22) (by decide +kernel) rfl (fun hc => ?_) (fun hc => ?_)
  · refine ms_iinc (k := 3) (n := 1) (ls' := [.inr (.inl 223), .inr (.inl r1), .inl x2, .inl (mj_w (x3 + 1)), .inl x4]) (p' := 53) (by decide +kernel) rfl rfl rfl ?_
    refine ms_goto (off := (-51)) (p' := 2) (by decide +kernel) ?_
    rfl
  · refine ms_aload_n (k := 0) (p' := 23) (by decide +kernel) rfl rfl ?_
    refine ms_iload_n (k := 3) (p' := 24) (by decide +kernel) rfl rfl ?_
    refine ms_iload (k := 4) (p' := 26) (by decide +kernel) rfl rfl ?_
    refine ms_virt_i (idx := 272) (cy := yM_get) (n := 2) (a := 223) (as := [.inl x3, .inl x4]) (rest := []) (p' := 29) (by decide +kernel) rfl rfl rfl rfl (k_223 hw) rfl (fun f1 v2 => ?_)
    refine ms_aload_n (k := 1) (p' := 30) (by decide +kernel) rfl rfl ?_
    refine ms_iload_n (k := 2) (p' := 31) (by decide +kernel) rfl rfl ?_
    refine ms_iconst (n := 5) (v := 5) (p' := 32) (by decide +kernel) rfl ?_
    refine ms_iload_n (k := 3) (p' := 33) (by decide +kernel) rfl rfl ?_
    refine ms_imul (p' := 34) (by decide +kernel) rfl ?_
    refine ms_iadd (p' := 35) (by decide +kernel) rfl ?_
    refine ms_iload (k := 4) (p' := 37) (by decide +kernel) rfl rfl ?_
    refine ms_iadd (p' := 38) (by decide +kernel) rfl ?_
    refine ms_iald (p' := 39) (by decide +kernel) rfl hr1 (fun hj3 => ?_)
    refine ms_icmp_le (off := 5) (t := 44) (p' := 42) (by decide +kernel) rfl (fun hc => ?_) (fun hc => ?_)
    · refine ms_iinc (k := 4) (n := 1) (ls' := [.inr (.inl 223), .inr (.inl r1), .inl x2, .inl x3, .inl (mj_w (x4 + 1))]) (p' := 47) (by decide +kernel) rfl rfl rfl ?_
      refine ms_goto (off := (-34)) (p' := 13) (by decide +kernel) ?_
      rfl
    · refine ms_iconst (n := 0) (v := 0) (p' := 43) (by decide +kernel) rfl ?_
      exact (ms_zret (by decide +kernel)).trans (mj_gd_pos (by decide) _)
theorem c_M_isKnown {sw : Bool} {w : mj_W} (hw : wk sw w) (f : mj_F) (x1 : Int)  : mj_call yM_isKnown w f [.inr (.inl 223), .inl x1] = mj_run yM_isKnown w f 2 [.inr (.inl 223), .inl x1, .inl 0] [] := by
  show mj_run yM_isKnown w f 0 [.inr (.inl 223), .inl x1, .inr (.inr (.inr 0))] [] = _
  refine ms_iconst (n := 0) (v := 0) (p' := 1) (by decide +kernel) rfl ?_
  refine ms_istore_n (k := 2) (ls' := [.inr (.inl 223), .inl x1, .inl 0]) (p' := 2) (by decide +kernel) rfl (Nat.le_of_ble_eq_true rfl) rfl ?_
  rfl
theorem l_M_isKnown_2 {sw : Bool} {w : mj_W} (hw : wk sw w) (f : mj_F) (x1 : Int) (x2 : Int)  : mj_run yM_isKnown w f 2 [.inr (.inl 223), .inl x1, .inl x2] [] = if (f 223 23) ≤ x2 then some (w, f, some (.inl 0)) else mj_gd (0 ≤ x2 ∧ x2 < ((60 : Nat) : Int)) (if ¬ (f 236 x2.toNat) = x1 then mj_run yM_isKnown w f 2 [.inr (.inl 223), .inl x1, .inl (mj_w (x2 + 1))] [] else mj_bi (mj_call yM_isInside w f [.inr (.inl 223), .inr (.inl 239), .inl (mj_w (25 * x2))]) (fun f2 v3 => if v3 = 0 then mj_run yM_isKnown w f2 2 [.inr (.inl 223), .inl x1, .inl (mj_w (x2 + 1))] [] else some (w, f2, some (.inl 1)))) := by
  refine ms_iload_n (k := 2) (p' := 3) (by decide +kernel) rfl rfl ?_
  refine ms_aload_n (k := 0) (p' := 4) (by decide +kernel) rfl rfl ?_
  refine ms_geti (idx := 374) (ci := 9) (k := 23) (q := 1414) (p' := 7) (by decide +kernel) rfl (k_223 hw) ?_
  refine ms_icmp_ge (off := 36) (t := 43) (p' := 10) (by decide +kernel) rfl (fun hc => ?_) (fun hc => ?_)
  · refine ms_iconst (n := 0) (v := 0) (p' := 44) (by decide +kernel) rfl ?_
    exact (ms_zret (by decide +kernel)).trans (mj_gd_pos (by decide) _)
  · refine ms_aload_n (k := 0) (p' := 11) (by decide +kernel) rfl rfl ?_
    refine ms_getr (idx := 50) (ci := 9) (k := 19) (q := 1410) (p' := 14) (by decide +kernel) rfl (k_223 hw) (r_223_19 hw) (by decide) ?_
    refine ms_iload_n (k := 2) (p' := 15) (by decide +kernel) rfl rfl ?_
    refine ms_iald (p' := 16) (by decide +kernel) rfl (k_236 hw) (fun hj1 => ?_)
    refine ms_iload_n (k := 1) (p' := 17) (by decide +kernel) rfl rfl ?_
    refine ms_icmp_ne (off := 20) (t := 37) (p' := 20) (by decide +kernel) rfl (fun hc => ?_) (fun hc => ?_)
    · refine ms_iinc (k := 2) (n := 1) (ls' := [.inr (.inl 223), .inl x1, .inl (mj_w (x2 + 1))]) (p' := 40) (by decide +kernel) rfl rfl rfl ?_
      refine ms_goto (off := (-38)) (p' := 2) (by decide +kernel) ?_
      rfl
    · refine ms_aload_n (k := 0) (p' := 21) (by decide +kernel) rfl rfl ?_
      refine ms_aload_n (k := 0) (p' := 22) (by decide +kernel) rfl rfl ?_
      refine ms_getr (idx := 59) (ci := 9) (k := 22) (q := 1413) (p' := 25) (by decide +kernel) rfl (k_223 hw) (r_223_22 hw) (by decide) ?_
      refine ms_bipush (n := 25) (v := 25) (p' := 27) (by decide +kernel) rfl ?_
      refine ms_iload_n (k := 2) (p' := 28) (by decide +kernel) rfl rfl ?_
      refine ms_imul (p' := 29) (by decide +kernel) rfl ?_
      refine ms_virt_i (idx := 383) (cy := yM_isInside) (n := 2) (a := 223) (as := [.inr (.inl 239), .inl (mj_w (25 * x2))]) (rest := []) (p' := 32) (by decide +kernel) rfl rfl rfl rfl (k_223 hw) rfl (fun f2 v3 => ?_)
      refine ms_if_eq (off := 5) (t := 37) (p' := 35) (by decide +kernel) rfl (fun hc => ?_) (fun hc => ?_)
      · refine ms_iinc (k := 2) (n := 1) (ls' := [.inr (.inl 223), .inl x1, .inl (mj_w (x2 + 1))]) (p' := 40) (by decide +kernel) rfl rfl rfl ?_
        refine ms_goto (off := (-38)) (p' := 2) (by decide +kernel) ?_
        rfl
      · refine ms_iconst (n := 1) (v := 1) (p' := 36) (by decide +kernel) rfl ?_
        exact (ms_zret (by decide +kernel)).trans (mj_gd_pos (by decide) _)
theorem c_M_explores {sw : Bool} {w : mj_W} (hw : wk sw w) (f : mj_F)   : mj_call yM_explores w f [.inr (.inl 223)] = mj_bu (mj_call yM_nought w (mj_u f 223 23 0) [.inr (.inl 223)]) (fun f1 => mj_bu (mj_call yM_stays w f1 [.inr (.inl 223), .inl (f1 223 5)]) (fun f2 => mj_bu (mj_call yM_roughens w f2 [.inr (.inl 223)]) (fun f3 => if (f3 223 53) = 0 then mj_bu (mj_call yM_adds w f3 [.inr (.inl 223), .inl (f3 223 5), .inl (-2), .inl (-2)]) (fun f4 => mj_run yM_explores w f4 43 [.inr (.inl 223), .inl 0, .inr (.inr (.inr 0))] []) else some (w, f3, none)))) := by
  show mj_run yM_explores w f 0 [.inr (.inl 223), .inr (.inr (.inr 0)), .inr (.inr (.inr 0))] [] = _
  refine ms_aload_n (k := 0) (p' := 1) (by decide +kernel) rfl rfl ?_
  refine ms_iconst (n := 0) (v := 0) (p' := 2) (by decide +kernel) rfl ?_
  refine ms_puti (idx := 374) (ci := 9) (k := 23) (q := 1414) (p' := 5) (by decide +kernel) rfl (k_223 hw) ?_
  refine ms_aload_n (k := 0) (p' := 6) (by decide +kernel) rfl rfl ?_
  refine ms_virt_u (idx := 126) (cy := yM_nought) (n := 0) (a := 223) (as := []) (rest := []) (p' := 9) (by decide +kernel) rfl rfl rfl rfl (k_223 hw) rfl (fun f1 => ?_)
  refine ms_aload_n (k := 0) (p' := 10) (by decide +kernel) rfl rfl ?_
  refine ms_aload_n (k := 0) (p' := 11) (by decide +kernel) rfl rfl ?_
  refine ms_geti (idx := 251) (ci := 9) (k := 5) (q := 1396) (p' := 14) (by decide +kernel) rfl (k_223 hw) ?_
  refine ms_virt_u (idx := 312) (cy := yM_stays) (n := 1) (a := 223) (as := [.inl (f1 223 5)]) (rest := []) (p' := 17) (by decide +kernel) rfl rfl rfl rfl (k_223 hw) rfl (fun f2 => ?_)
  refine ms_aload_n (k := 0) (p' := 18) (by decide +kernel) rfl rfl ?_
  refine ms_virt_u (idx := 371) (cy := yM_roughens) (n := 0) (a := 223) (as := []) (rest := []) (p' := 21) (by decide +kernel) rfl rfl rfl rfl (k_223 hw) rfl (fun f3 => ?_)
  refine ms_aload_n (k := 0) (p' := 22) (by decide +kernel) rfl rfl ?_
  refine ms_geti (idx := 289) (ci := 9) (k := 53) (q := 1444) (p' := 25) (by decide +kernel) rfl (k_223 hw) ?_
  refine ms_if_eq (off := 4) (t := 29) (p' := 28) (by decide +kernel) rfl (fun hc => ?_) (fun hc => ?_)
  · refine ms_aload_n (k := 0) (p' := 30) (by decide +kernel) rfl rfl ?_
    refine ms_aload_n (k := 0) (p' := 31) (by decide +kernel) rfl rfl ?_
    refine ms_geti (idx := 251) (ci := 9) (k := 5) (q := 1396) (p' := 34) (by decide +kernel) rfl (k_223 hw) ?_
    refine ms_bipush (n := (-2)) (v := (-2)) (p' := 36) (by decide +kernel) rfl ?_
    refine ms_bipush (n := (-2)) (v := (-2)) (p' := 38) (by decide +kernel) rfl ?_
    refine ms_virt_u (idx := 402) (cy := yM_adds) (n := 3) (a := 223) (as := [.inl (f3 223 5), .inl (-2), .inl (-2)]) (rest := []) (p' := 41) (by decide +kernel) rfl rfl rfl rfl (k_223 hw) rfl (fun f4 => ?_)
    refine ms_iconst (n := 0) (v := 0) (p' := 42) (by decide +kernel) rfl ?_
    refine ms_istore_n (k := 1) (ls' := [.inr (.inl 223), .inl 0, .inr (.inr (.inr 0))]) (p' := 43) (by decide +kernel) rfl (Nat.le_of_ble_eq_true rfl) rfl ?_
    rfl
  · exact ms_vret (by decide +kernel)
theorem l_M_explores_43 {sw : Bool} {w : mj_W} (hw : wk sw w) (f : mj_F) (x1 : Int) (u2 : mj_V)  : mj_run yM_explores w f 43 [.inr (.inl 223), .inl x1, u2] [] = if (f 223 23) ≤ x1 then some (w, f, none) else mj_run yM_explores w f 53 [.inr (.inl 223), .inl x1, .inl 0] [] := by
  refine ms_iload_n (k := 1) (p' := 44) (by decide +kernel) rfl rfl ?_
  refine ms_aload_n (k := 0) (p' := 45) (by decide +kernel) rfl rfl ?_
  refine ms_geti (idx := 374) (ci := 9) (k := 23) (q := 1414) (p' := 48) (by decide +kernel) rfl (k_223 hw) ?_
  refine ms_icmp_ge (off := 102) (t := 150) (p' := 51) (by decide +kernel) rfl (fun hc => ?_) (fun hc => ?_)
  · exact ms_vret (by decide +kernel)
  · refine ms_iconst (n := 0) (v := 0) (p' := 52) (by decide +kernel) rfl ?_
    refine ms_istore_n (k := 2) (ls' := [.inr (.inl 223), .inl x1, .inl 0]) (p' := 53) (by decide +kernel) rfl (Nat.le_of_ble_eq_true rfl) rfl ?_
    rfl
theorem l_M_explores_53 {sw : Bool} {w : mj_W} (hw : wk sw w) (f : mj_F) (x1 : Int) (x2 : Int)  : mj_run yM_explores w f 53 [.inr (.inl 223), .inl x1, .inl x2] [] = if (f 223 4) ≤ x2 then mj_run yM_explores w f 43 [.inr (.inl 223), .inl (mj_w (x1 + 1)), .inl x2] [] else mj_gd (0 ≤ x2 ∧ x2 < ((16 : Nat) : Int)) (mj_gd (0 ≤ x1 ∧ x1 < ((60 : Nat) : Int)) (if (f 228 x2.toNat) = (f 236 x1.toNat) then mj_bu (mj_call yM_loadsNode w f [.inr (.inl 223), .inl x1]) (fun f7 => mj_bu (mj_call yM_steps w f7 [.inr (.inl 223), .inl x2]) (fun f8 => mj_bu (mj_call yM_roughens w f8 [.inr (.inl 223)]) (fun f9 => if ¬ (f9 223 53) = 0 then mj_run yM_explores w f9 53 [.inr (.inl 223), .inl x1, .inl (mj_w (x2 + 1))] [] else mj_gd (0 ≤ x2 ∧ x2 < ((16 : Nat) : Int)) (mj_bi (mj_call yM_isKnown w f9 [.inr (.inl 223), .inl (f9 229 x2.toNat)]) (fun f11 v12 => if v12 = 0 then if ¬ (f11 223 23) = 60 then mj_gd (0 ≤ x2 ∧ x2 < ((16 : Nat) : Int)) (mj_bu (mj_call yM_adds w f11 [.inr (.inl 223), .inl (f11 229 x2.toNat), .inl x1, .inl x2]) (fun f14 => mj_run yM_explores w f14 53 [.inr (.inl 223), .inl x1, .inl (mj_w (x2 + 1))] [])) else some (w, f11, none) else mj_run yM_explores w f11 53 [.inr (.inl 223), .inl x1, .inl (mj_w (x2 + 1))] []))))) else mj_run yM_explores w f 53 [.inr (.inl 223), .inl x1, .inl (mj_w (x2 + 1))] [])) := by
  refine ms_iload_n (k := 2) (p' := 54) (by decide +kernel) rfl rfl ?_
  refine ms_aload_n (k := 0) (p' := 55) (by decide +kernel) rfl rfl ?_
  refine ms_geti (idx := 248) (ci := 9) (k := 4) (q := 1395) (p' := 58) (by decide +kernel) rfl (k_223 hw) ?_
  refine ms_icmp_ge (off := 86) (t := 144) (p' := 61) (by decide +kernel) rfl (fun hc => ?_) (fun hc => ?_)
  · refine ms_iinc (k := 1) (n := 1) (ls' := [.inr (.inl 223), .inl (mj_w (x1 + 1)), .inl x2]) (p' := 147) (by decide +kernel) rfl rfl rfl ?_
    refine ms_goto (off := (-104)) (p' := 43) (by decide +kernel) ?_
    rfl
  · refine ms_aload_n (k := 0) (p' := 62) (by decide +kernel) rfl rfl ?_
    refine ms_getr (idx := 26) (ci := 9) (k := 10) (q := 1401) (p' := 65) (by decide +kernel) rfl (k_223 hw) (r_223_10 hw) (by decide) ?_
    refine ms_iload_n (k := 2) (p' := 66) (by decide +kernel) rfl rfl ?_
    refine ms_iald (p' := 67) (by decide +kernel) rfl (k_228 hw) (fun hj5 => ?_)
    refine ms_aload_n (k := 0) (p' := 68) (by decide +kernel) rfl rfl ?_
    refine ms_getr (idx := 50) (ci := 9) (k := 19) (q := 1410) (p' := 71) (by decide +kernel) rfl (k_223 hw) (r_223_19 hw) (by decide) ?_
    refine ms_iload_n (k := 1) (p' := 72) (by decide +kernel) rfl rfl ?_
    refine ms_iald (p' := 73) (by decide +kernel) rfl (k_236 hw) (fun hj6 => ?_)
    refine ms_icmp_eq (off := 6) (t := 79) (p' := 76) (by decide +kernel) rfl (fun hc => ?_) (fun hc => ?_)
    · refine ms_aload_n (k := 0) (p' := 80) (by decide +kernel) rfl rfl ?_
      refine ms_iload_n (k := 1) (p' := 81) (by decide +kernel) rfl rfl ?_
      refine ms_virt_u (idx := 377) (cy := yM_loadsNode) (n := 1) (a := 223) (as := [.inl x1]) (rest := []) (p' := 84) (by decide +kernel) rfl rfl rfl rfl (k_223 hw) rfl (fun f7 => ?_)
      refine ms_aload_n (k := 0) (p' := 85) (by decide +kernel) rfl rfl ?_
      refine ms_iload_n (k := 2) (p' := 86) (by decide +kernel) rfl rfl ?_
      refine ms_virt_u (idx := 362) (cy := yM_steps) (n := 1) (a := 223) (as := [.inl x2]) (rest := []) (p' := 89) (by decide +kernel) rfl rfl rfl rfl (k_223 hw) rfl (fun f8 => ?_)
      refine ms_aload_n (k := 0) (p' := 90) (by decide +kernel) rfl rfl ?_
      refine ms_virt_u (idx := 371) (cy := yM_roughens) (n := 0) (a := 223) (as := []) (rest := []) (p' := 93) (by decide +kernel) rfl rfl rfl rfl (k_223 hw) rfl (fun f9 => ?_)
      refine ms_aload_n (k := 0) (p' := 94) (by decide +kernel) rfl rfl ?_
      refine ms_geti (idx := 289) (ci := 9) (k := 53) (q := 1444) (p' := 97) (by decide +kernel) rfl (k_223 hw) ?_
      refine ms_if_ne (off := 41) (t := 138) (p' := 100) (by decide +kernel) rfl (fun hc => ?_) (fun hc => ?_)
      · refine ms_iinc (k := 2) (n := 1) (ls' := [.inr (.inl 223), .inl x1, .inl (mj_w (x2 + 1))]) (p' := 141) (by decide +kernel) rfl rfl rfl ?_
        refine ms_goto (off := (-88)) (p' := 53) (by decide +kernel) ?_
        rfl
      · refine ms_aload_n (k := 0) (p' := 101) (by decide +kernel) rfl rfl ?_
        refine ms_aload_n (k := 0) (p' := 102) (by decide +kernel) rfl rfl ?_
        refine ms_getr (idx := 29) (ci := 9) (k := 11) (q := 1402) (p' := 105) (by decide +kernel) rfl (k_223 hw) (r_223_11 hw) (by decide) ?_
        refine ms_iload_n (k := 2) (p' := 106) (by decide +kernel) rfl rfl ?_
        refine ms_iald (p' := 107) (by decide +kernel) rfl (k_229 hw) (fun hj10 => ?_)
        refine ms_virt_i (idx := 405) (cy := yM_isKnown) (n := 1) (a := 223) (as := [.inl (f9 229 x2.toNat)]) (rest := []) (p' := 110) (by decide +kernel) rfl rfl rfl rfl (k_223 hw) rfl (fun f11 v12 => ?_)
        refine ms_if_eq (off := 6) (t := 116) (p' := 113) (by decide +kernel) rfl (fun hc => ?_) (fun hc => ?_)
        · refine ms_aload_n (k := 0) (p' := 117) (by decide +kernel) rfl rfl ?_
          refine ms_geti (idx := 374) (ci := 9) (k := 23) (q := 1414) (p' := 120) (by decide +kernel) rfl (k_223 hw) ?_
          refine ms_bipush (n := 60) (v := 60) (p' := 122) (by decide +kernel) rfl ?_
          refine ms_icmp_ne (off := 4) (t := 126) (p' := 125) (by decide +kernel) rfl (fun hc => ?_) (fun hc => ?_)
          · refine ms_aload_n (k := 0) (p' := 127) (by decide +kernel) rfl rfl ?_
            refine ms_aload_n (k := 0) (p' := 128) (by decide +kernel) rfl rfl ?_
            refine ms_getr (idx := 29) (ci := 9) (k := 11) (q := 1402) (p' := 131) (by decide +kernel) rfl (k_223 hw) (r_223_11 hw) (by decide) ?_
            refine ms_iload_n (k := 2) (p' := 132) (by decide +kernel) rfl rfl ?_
            refine ms_iald (p' := 133) (by decide +kernel) rfl (k_229 hw) (fun hj13 => ?_)
            refine ms_iload_n (k := 1) (p' := 134) (by decide +kernel) rfl rfl ?_
            refine ms_iload_n (k := 2) (p' := 135) (by decide +kernel) rfl rfl ?_
            refine ms_virt_u (idx := 402) (cy := yM_adds) (n := 3) (a := 223) (as := [.inl (f11 229 x2.toNat), .inl x1, .inl x2]) (rest := []) (p' := 138) (by decide +kernel) rfl rfl rfl rfl (k_223 hw) rfl (fun f14 => ?_)
            refine ms_iinc (k := 2) (n := 1) (ls' := [.inr (.inl 223), .inl x1, .inl (mj_w (x2 + 1))]) (p' := 141) (by decide +kernel) rfl rfl rfl ?_
            refine ms_goto (off := (-88)) (p' := 53) (by decide +kernel) ?_
            rfl
          · exact ms_vret (by decide +kernel)
        · refine ms_goto (off := 25) (p' := 138) (by decide +kernel) ?_
          refine ms_iinc (k := 2) (n := 1) (ls' := [.inr (.inl 223), .inl x1, .inl (mj_w (x2 + 1))]) (p' := 141) (by decide +kernel) rfl rfl rfl ?_
          refine ms_goto (off := (-88)) (p' := 53) (by decide +kernel) ?_
          rfl
    · refine ms_goto (off := 62) (p' := 138) (by decide +kernel) ?_
      refine ms_iinc (k := 2) (n := 1) (ls' := [.inr (.inl 223), .inl x1, .inl (mj_w (x2 + 1))]) (p' := 141) (by decide +kernel) rfl rfl rfl ?_
      refine ms_goto (off := (-88)) (p' := 53) (by decide +kernel) ?_
      rfl
theorem c_M_becomes {sw : Bool} {w : mj_W} (hw : wk sw w) (f : mj_F)   : mj_call yM_becomes w f [.inr (.inl 223)] = mj_bu (mj_call yM_copies w (mj_u (mj_u (mj_u (mj_u (mj_u f 223 1 (f 223 41)) 223 2 (mj_u f 223 1 (f 223 41) 223 36)) 223 3 (mj_u (mj_u f 223 1 (f 223 41)) 223 2 (mj_u f 223 1 (f 223 41) 223 36) 223 37)) 223 4 (mj_u (mj_u (mj_u f 223 1 (f 223 41)) 223 2 (mj_u f 223 1 (f 223 41) 223 36)) 223 3 (mj_u (mj_u f 223 1 (f 223 41)) 223 2 (mj_u f 223 1 (f 223 41) 223 36) 223 37) 223 38)) 223 5 (mj_u (mj_u (mj_u (mj_u f 223 1 (f 223 41)) 223 2 (mj_u f 223 1 (f 223 41) 223 36)) 223 3 (mj_u (mj_u f 223 1 (f 223 41)) 223 2 (mj_u f 223 1 (f 223 41) 223 36) 223 37)) 223 4 (mj_u (mj_u (mj_u f 223 1 (f 223 41)) 223 2 (mj_u f 223 1 (f 223 41) 223 36)) 223 3 (mj_u (mj_u f 223 1 (f 223 41)) 223 2 (mj_u f 223 1 (f 223 41) 223 36) 223 37) 223 38) 223 39)) [.inr (.inl 243), .inr (.inl 224), .inl 24]) (fun f1 => mj_bu (mj_call yM_copies w f1 [.inr (.inl 244), .inr (.inl 225), .inl 144]) (fun f2 => mj_bu (mj_call yM_copies w f2 [.inr (.inl 245), .inr (.inl 226), .inl 144]) (fun f3 => mj_bu (mj_call yM_copies w f3 [.inr (.inl 246), .inr (.inl 227), .inl 144]) (fun f4 => mj_bu (mj_call yM_copies w f4 [.inr (.inl 247), .inr (.inl 228), .inl 16]) (fun f5 => mj_bu (mj_call yM_copies w f5 [.inr (.inl 248), .inr (.inl 229), .inl 16]) (fun f6 => mj_bu (mj_call yM_copies w f6 [.inr (.inl 249), .inr (.inl 230), .inl 16]) (fun f7 => mj_bu (mj_call yM_copies w f7 [.inr (.inl 250), .inr (.inl 231), .inl 64]) (fun f8 => mj_bu (mj_call yM_copies w f8 [.inr (.inl 251), .inr (.inl 232), .inl 64]) (fun f9 => mj_run yM_becomes w f9 162 [.inr (.inl 223), .inl 0] []))))))))) := by
  show mj_run yM_becomes w f 0 [.inr (.inl 223), .inr (.inr (.inr 0))] [] = _
  refine ms_aload_n (k := 0) (p' := 1) (by decide +kernel) rfl rfl ?_
  refine ms_aload_n (k := 0) (p' := 2) (by decide +kernel) rfl rfl ?_
  refine ms_geti (idx := 230) (ci := 9) (k := 41) (q := 1432) (p' := 5) (by decide +kernel) rfl (k_223 hw) ?_
  refine ms_puti (idx := 239) (ci := 9) (k := 1) (q := 1392) (p' := 8) (by decide +kernel) rfl (k_223 hw) ?_
  refine ms_aload_n (k := 0) (p' := 9) (by decide +kernel) rfl rfl ?_
  refine ms_aload_n (k := 0) (p' := 10) (by decide +kernel) rfl rfl ?_
  refine ms_geti (idx := 203) (ci := 9) (k := 36) (q := 1427) (p' := 13) (by decide +kernel) rfl (k_223 hw) ?_
  refine ms_puti (idx := 242) (ci := 9) (k := 2) (q := 1393) (p' := 16) (by decide +kernel) rfl (k_223 hw) ?_
  refine ms_aload_n (k := 0) (p' := 17) (by decide +kernel) rfl rfl ?_
  refine ms_aload_n (k := 0) (p' := 18) (by decide +kernel) rfl rfl ?_
  refine ms_geti (idx := 189) (ci := 9) (k := 37) (q := 1428) (p' := 21) (by decide +kernel) rfl (k_223 hw) ?_
  refine ms_puti (idx := 245) (ci := 9) (k := 3) (q := 1394) (p' := 24) (by decide +kernel) rfl (k_223 hw) ?_
  refine ms_aload_n (k := 0) (p' := 25) (by decide +kernel) rfl rfl ?_
  refine ms_aload_n (k := 0) (p' := 26) (by decide +kernel) rfl rfl ?_
  refine ms_geti (idx := 215) (ci := 9) (k := 38) (q := 1429) (p' := 29) (by decide +kernel) rfl (k_223 hw) ?_
  refine ms_puti (idx := 248) (ci := 9) (k := 4) (q := 1395) (p' := 32) (by decide +kernel) rfl (k_223 hw) ?_
  refine ms_aload_n (k := 0) (p' := 33) (by decide +kernel) rfl rfl ?_
  refine ms_aload_n (k := 0) (p' := 34) (by decide +kernel) rfl rfl ?_
  refine ms_geti (idx := 227) (ci := 9) (k := 39) (q := 1430) (p' := 37) (by decide +kernel) rfl (k_223 hw) ?_
  refine ms_puti (idx := 251) (ci := 9) (k := 5) (q := 1396) (p' := 40) (by decide +kernel) rfl (k_223 hw) ?_
  refine ms_aload_n (k := 0) (p' := 41) (by decide +kernel) rfl rfl ?_
  refine ms_getr (idx := 75) (ci := 9) (k := 42) (q := 1433) (p' := 44) (by decide +kernel) rfl (k_223 hw) (r_223_42 hw) (by decide) ?_
  refine ms_aload_n (k := 0) (p' := 45) (by decide +kernel) rfl rfl ?_
  refine ms_getr (idx := 13) (ci := 9) (k := 6) (q := 1397) (p' := 48) (by decide +kernel) rfl (k_223 hw) (r_223_6 hw) (by decide) ?_
  refine ms_bipush (n := 24) (v := 24) (p' := 50) (by decide +kernel) rfl ?_
  refine ms_stat_u (idx := 254) (cy := yM_copies) (n := 3) (as := [.inr (.inl 243), .inr (.inl 224), .inl 24]) (rest := []) (p' := 53) (by decide +kernel) rfl rfl rfl rfl rfl (fun f1 => ?_)
  refine ms_aload_n (k := 0) (p' := 54) (by decide +kernel) rfl rfl ?_
  refine ms_getr (idx := 78) (ci := 9) (k := 43) (q := 1434) (p' := 57) (by decide +kernel) rfl (k_223 hw) (r_223_43 hw) (by decide) ?_
  refine ms_aload_n (k := 0) (p' := 58) (by decide +kernel) rfl rfl ?_
  refine ms_getr (idx := 17) (ci := 9) (k := 7) (q := 1398) (p' := 61) (by decide +kernel) rfl (k_223 hw) (r_223_7 hw) (by decide) ?_
  refine ms_sipush (n := 144) (v := 144) (p' := 64) (by decide +kernel) rfl ?_
  refine ms_stat_u (idx := 254) (cy := yM_copies) (n := 3) (as := [.inr (.inl 244), .inr (.inl 225), .inl 144]) (rest := []) (p' := 67) (by decide +kernel) rfl rfl rfl rfl rfl (fun f2 => ?_)
  refine ms_aload_n (k := 0) (p' := 68) (by decide +kernel) rfl rfl ?_
  refine ms_getr (idx := 81) (ci := 9) (k := 44) (q := 1435) (p' := 71) (by decide +kernel) rfl (k_223 hw) (r_223_44 hw) (by decide) ?_
  refine ms_aload_n (k := 0) (p' := 72) (by decide +kernel) rfl rfl ?_
  refine ms_getr (idx := 20) (ci := 9) (k := 8) (q := 1399) (p' := 75) (by decide +kernel) rfl (k_223 hw) (r_223_8 hw) (by decide) ?_
  refine ms_sipush (n := 144) (v := 144) (p' := 78) (by decide +kernel) rfl ?_
  refine ms_stat_u (idx := 254) (cy := yM_copies) (n := 3) (as := [.inr (.inl 245), .inr (.inl 226), .inl 144]) (rest := []) (p' := 81) (by decide +kernel) rfl rfl rfl rfl rfl (fun f3 => ?_)
  refine ms_aload_n (k := 0) (p' := 82) (by decide +kernel) rfl rfl ?_
  refine ms_getr (idx := 84) (ci := 9) (k := 45) (q := 1436) (p' := 85) (by decide +kernel) rfl (k_223 hw) (r_223_45 hw) (by decide) ?_
  refine ms_aload_n (k := 0) (p' := 86) (by decide +kernel) rfl rfl ?_
  refine ms_getr (idx := 23) (ci := 9) (k := 9) (q := 1400) (p' := 89) (by decide +kernel) rfl (k_223 hw) (r_223_9 hw) (by decide) ?_
  refine ms_sipush (n := 144) (v := 144) (p' := 92) (by decide +kernel) rfl ?_
  refine ms_stat_u (idx := 254) (cy := yM_copies) (n := 3) (as := [.inr (.inl 246), .inr (.inl 227), .inl 144]) (rest := []) (p' := 95) (by decide +kernel) rfl rfl rfl rfl rfl (fun f4 => ?_)
  refine ms_aload_n (k := 0) (p' := 96) (by decide +kernel) rfl rfl ?_
  refine ms_getr (idx := 87) (ci := 9) (k := 46) (q := 1437) (p' := 99) (by decide +kernel) rfl (k_223 hw) (r_223_46 hw) (by decide) ?_
  refine ms_aload_n (k := 0) (p' := 100) (by decide +kernel) rfl rfl ?_
  refine ms_getr (idx := 26) (ci := 9) (k := 10) (q := 1401) (p' := 103) (by decide +kernel) rfl (k_223 hw) (r_223_10 hw) (by decide) ?_
  refine ms_bipush (n := 16) (v := 16) (p' := 105) (by decide +kernel) rfl ?_
  refine ms_stat_u (idx := 254) (cy := yM_copies) (n := 3) (as := [.inr (.inl 247), .inr (.inl 228), .inl 16]) (rest := []) (p' := 108) (by decide +kernel) rfl rfl rfl rfl rfl (fun f5 => ?_)
  refine ms_aload_n (k := 0) (p' := 109) (by decide +kernel) rfl rfl ?_
  refine ms_getr (idx := 90) (ci := 9) (k := 47) (q := 1438) (p' := 112) (by decide +kernel) rfl (k_223 hw) (r_223_47 hw) (by decide) ?_
  refine ms_aload_n (k := 0) (p' := 113) (by decide +kernel) rfl rfl ?_
  refine ms_getr (idx := 29) (ci := 9) (k := 11) (q := 1402) (p' := 116) (by decide +kernel) rfl (k_223 hw) (r_223_11 hw) (by decide) ?_
  refine ms_bipush (n := 16) (v := 16) (p' := 118) (by decide +kernel) rfl ?_
  refine ms_stat_u (idx := 254) (cy := yM_copies) (n := 3) (as := [.inr (.inl 248), .inr (.inl 229), .inl 16]) (rest := []) (p' := 121) (by decide +kernel) rfl rfl rfl rfl rfl (fun f6 => ?_)
  refine ms_aload_n (k := 0) (p' := 122) (by decide +kernel) rfl rfl ?_
  refine ms_getr (idx := 93) (ci := 9) (k := 48) (q := 1439) (p' := 125) (by decide +kernel) rfl (k_223 hw) (r_223_48 hw) (by decide) ?_
  refine ms_aload_n (k := 0) (p' := 126) (by decide +kernel) rfl rfl ?_
  refine ms_getr (idx := 32) (ci := 9) (k := 12) (q := 1403) (p' := 129) (by decide +kernel) rfl (k_223 hw) (r_223_12 hw) (by decide) ?_
  refine ms_bipush (n := 16) (v := 16) (p' := 131) (by decide +kernel) rfl ?_
  refine ms_stat_u (idx := 254) (cy := yM_copies) (n := 3) (as := [.inr (.inl 249), .inr (.inl 230), .inl 16]) (rest := []) (p' := 134) (by decide +kernel) rfl rfl rfl rfl rfl (fun f7 => ?_)
  refine ms_aload_n (k := 0) (p' := 135) (by decide +kernel) rfl rfl ?_
  refine ms_getr (idx := 96) (ci := 9) (k := 49) (q := 1440) (p' := 138) (by decide +kernel) rfl (k_223 hw) (r_223_49 hw) (by decide) ?_
  refine ms_aload_n (k := 0) (p' := 139) (by decide +kernel) rfl rfl ?_
  refine ms_getr (idx := 35) (ci := 9) (k := 13) (q := 1404) (p' := 142) (by decide +kernel) rfl (k_223 hw) (r_223_13 hw) (by decide) ?_
  refine ms_bipush (n := 64) (v := 64) (p' := 144) (by decide +kernel) rfl ?_
  refine ms_stat_u (idx := 254) (cy := yM_copies) (n := 3) (as := [.inr (.inl 250), .inr (.inl 231), .inl 64]) (rest := []) (p' := 147) (by decide +kernel) rfl rfl rfl rfl rfl (fun f8 => ?_)
  refine ms_aload_n (k := 0) (p' := 148) (by decide +kernel) rfl rfl ?_
  refine ms_getr (idx := 99) (ci := 9) (k := 50) (q := 1441) (p' := 151) (by decide +kernel) rfl (k_223 hw) (r_223_50 hw) (by decide) ?_
  refine ms_aload_n (k := 0) (p' := 152) (by decide +kernel) rfl rfl ?_
  refine ms_getr (idx := 38) (ci := 9) (k := 14) (q := 1405) (p' := 155) (by decide +kernel) rfl (k_223 hw) (r_223_14 hw) (by decide) ?_
  refine ms_bipush (n := 64) (v := 64) (p' := 157) (by decide +kernel) rfl ?_
  refine ms_stat_u (idx := 254) (cy := yM_copies) (n := 3) (as := [.inr (.inl 251), .inr (.inl 232), .inl 64]) (rest := []) (p' := 160) (by decide +kernel) rfl rfl rfl rfl rfl (fun f9 => ?_)
  refine ms_iconst (n := 0) (v := 0) (p' := 161) (by decide +kernel) rfl ?_
  refine ms_istore_n (k := 1) (ls' := [.inr (.inl 223), .inl 0]) (p' := 162) (by decide +kernel) rfl (Nat.le_of_ble_eq_true rfl) rfl ?_
  rfl
theorem l_M_becomes_162 {sw : Bool} {w : mj_W} (hw : wk sw w) (f : mj_F) (x1 : Int)  : mj_run yM_becomes w f 162 [.inr (.inl 223), .inl x1] [] = if 5 ≤ x1 then mj_run yM_becomes w f 182 [.inr (.inl 223), .inl 0] [] else mj_gd (0 ≤ x1 ∧ x1 < ((5 : Nat) : Int)) (mj_run yM_becomes w (mj_u f 233 x1.toNat 0) 162 [.inr (.inl 223), .inl (mj_w (x1 + 1))] []) := by
  refine ms_iload_n (k := 1) (p' := 163) (by decide +kernel) rfl rfl ?_
  refine ms_iconst (n := 5) (v := 5) (p' := 164) (by decide +kernel) rfl ?_
  refine ms_icmp_ge (off := 16) (t := 180) (p' := 167) (by decide +kernel) rfl (fun hc => ?_) (fun hc => ?_)
  · refine ms_iconst (n := 0) (v := 0) (p' := 181) (by decide +kernel) rfl ?_
    refine ms_istore_n (k := 1) (ls' := [.inr (.inl 223), .inl 0]) (p' := 182) (by decide +kernel) rfl (Nat.le_of_ble_eq_true rfl) rfl ?_
    rfl
  · refine ms_aload_n (k := 0) (p' := 168) (by decide +kernel) rfl rfl ?_
    refine ms_getr (idx := 41) (ci := 9) (k := 15) (q := 1406) (p' := 171) (by decide +kernel) rfl (k_223 hw) (r_223_15 hw) (by decide) ?_
    refine ms_iload_n (k := 1) (p' := 172) (by decide +kernel) rfl rfl ?_
    refine ms_iconst (n := 0) (v := 0) (p' := 173) (by decide +kernel) rfl ?_
    refine ms_iast (p' := 174) (by decide +kernel) rfl (k_233 hw) (fun hj10 => ?_)
    refine ms_iinc (k := 1) (n := 1) (ls' := [.inr (.inl 223), .inl (mj_w (x1 + 1))]) (p' := 177) (by decide +kernel) rfl rfl rfl ?_
    refine ms_goto (off := (-15)) (p' := 162) (by decide +kernel) ?_
    rfl
theorem l_M_becomes_182 {sw : Bool} {w : mj_W} (hw : wk sw w) (f : mj_F) (x1 : Int)  : mj_run yM_becomes w f 182 [.inr (.inl 223), .inl x1] [] = if (mj_w (8 + (f 223 4))) ≤ x1 then mj_run yM_becomes w f 220 [.inr (.inl 223), .inl 0] [] else if x1 < (f 223 3) then mj_bu (mj_call yM_greatens w f [.inr (.inl 223), .inl x1]) (fun f11 => mj_run yM_becomes w f11 182 [.inr (.inl 223), .inl (mj_w (x1 + 1))] []) else if x1 < 8 then mj_run yM_becomes w f 182 [.inr (.inl 223), .inl (mj_w (x1 + 1))] [] else mj_bu (mj_call yM_greatens w f [.inr (.inl 223), .inl x1]) (fun f12 => mj_run yM_becomes w f12 182 [.inr (.inl 223), .inl (mj_w (x1 + 1))] []) := by
  refine ms_iload_n (k := 1) (p' := 183) (by decide +kernel) rfl rfl ?_
  refine ms_bipush (n := 8) (v := 8) (p' := 185) (by decide +kernel) rfl ?_
  refine ms_aload_n (k := 0) (p' := 186) (by decide +kernel) rfl rfl ?_
  refine ms_geti (idx := 248) (ci := 9) (k := 4) (q := 1395) (p' := 189) (by decide +kernel) rfl (k_223 hw) ?_
  refine ms_iadd (p' := 190) (by decide +kernel) rfl ?_
  refine ms_icmp_ge (off := 28) (t := 218) (p' := 193) (by decide +kernel) rfl (fun hc => ?_) (fun hc => ?_)
  · refine ms_iconst (n := 0) (v := 0) (p' := 219) (by decide +kernel) rfl ?_
    refine ms_istore_n (k := 1) (ls' := [.inr (.inl 223), .inl 0]) (p' := 220) (by decide +kernel) rfl (Nat.le_of_ble_eq_true rfl) rfl ?_
    rfl
  · refine ms_iload_n (k := 1) (p' := 194) (by decide +kernel) rfl rfl ?_
    refine ms_aload_n (k := 0) (p' := 195) (by decide +kernel) rfl rfl ?_
    refine ms_geti (idx := 245) (ci := 9) (k := 3) (q := 1394) (p' := 198) (by decide +kernel) rfl (k_223 hw) ?_
    refine ms_icmp_lt (off := 9) (t := 207) (p' := 201) (by decide +kernel) rfl (fun hc => ?_) (fun hc => ?_)
    · refine ms_aload_n (k := 0) (p' := 208) (by decide +kernel) rfl rfl ?_
      refine ms_iload_n (k := 1) (p' := 209) (by decide +kernel) rfl rfl ?_
      refine ms_virt_u (idx := 258) (cy := yM_greatens) (n := 1) (a := 223) (as := [.inl x1]) (rest := []) (p' := 212) (by decide +kernel) rfl rfl rfl rfl (k_223 hw) rfl (fun f11 => ?_)
      refine ms_iinc (k := 1) (n := 1) (ls' := [.inr (.inl 223), .inl (mj_w (x1 + 1))]) (p' := 215) (by decide +kernel) rfl rfl rfl ?_
      refine ms_goto (off := (-33)) (p' := 182) (by decide +kernel) ?_
      rfl
    · refine ms_iload_n (k := 1) (p' := 202) (by decide +kernel) rfl rfl ?_
      refine ms_bipush (n := 8) (v := 8) (p' := 204) (by decide +kernel) rfl ?_
      refine ms_icmp_lt (off := 8) (t := 212) (p' := 207) (by decide +kernel) rfl (fun hc => ?_) (fun hc => ?_)
      · refine ms_iinc (k := 1) (n := 1) (ls' := [.inr (.inl 223), .inl (mj_w (x1 + 1))]) (p' := 215) (by decide +kernel) rfl rfl rfl ?_
        refine ms_goto (off := (-33)) (p' := 182) (by decide +kernel) ?_
        rfl
      · refine ms_aload_n (k := 0) (p' := 208) (by decide +kernel) rfl rfl ?_
        refine ms_iload_n (k := 1) (p' := 209) (by decide +kernel) rfl rfl ?_
        refine ms_virt_u (idx := 258) (cy := yM_greatens) (n := 1) (a := 223) (as := [.inl x1]) (rest := []) (p' := 212) (by decide +kernel) rfl rfl rfl rfl (k_223 hw) rfl (fun f12 => ?_)
        refine ms_iinc (k := 1) (n := 1) (ls' := [.inr (.inl 223), .inl (mj_w (x1 + 1))]) (p' := 215) (by decide +kernel) rfl rfl rfl ?_
        refine ms_goto (off := (-33)) (p' := 182) (by decide +kernel) ?_
        rfl
theorem l_M_becomes_220 {sw : Bool} {w : mj_W} (hw : wk sw w) (f : mj_F) (x1 : Int)  : mj_run yM_becomes w f 220 [.inr (.inl 223), .inl x1] [] = if 125 ≤ x1 then mj_bu (mj_call yM_laysAll w f [.inr (.inl 223)]) (fun f13 => mj_bu (mj_call yM_explores w (mj_u f13 223 18 0) [.inr (.inl 223)]) (fun f14 => some (w, f14, none))) else mj_gd (0 ≤ x1 ∧ x1 < ((125 : Nat) : Int)) (mj_run yM_becomes w (mj_u f 234 x1.toNat 0) 220 [.inr (.inl 223), .inl (mj_w (x1 + 1))] []) := by
  refine ms_iload_n (k := 1) (p' := 221) (by decide +kernel) rfl rfl ?_
  refine ms_bipush (n := 125) (v := 125) (p' := 223) (by decide +kernel) rfl ?_
  refine ms_icmp_ge (off := 16) (t := 239) (p' := 226) (by decide +kernel) rfl (fun hc => ?_) (fun hc => ?_)
  · refine ms_aload_n (k := 0) (p' := 240) (by decide +kernel) rfl rfl ?_
    refine ms_virt_u (idx := 123) (cy := yM_laysAll) (n := 0) (a := 223) (as := []) (rest := []) (p' := 243) (by decide +kernel) rfl rfl rfl rfl (k_223 hw) rfl (fun f13 => ?_)
    refine ms_aload_n (k := 0) (p' := 244) (by decide +kernel) rfl rfl ?_
    refine ms_iconst (n := 0) (v := 0) (p' := 245) (by decide +kernel) rfl ?_
    refine ms_puti (idx := 261) (ci := 9) (k := 18) (q := 1409) (p' := 248) (by decide +kernel) rfl (k_223 hw) ?_
    refine ms_aload_n (k := 0) (p' := 249) (by decide +kernel) rfl rfl ?_
    refine ms_virt_u (idx := 264) (cy := yM_explores) (n := 0) (a := 223) (as := []) (rest := []) (p' := 252) (by decide +kernel) rfl rfl rfl rfl (k_223 hw) rfl (fun f14 => ?_)
    exact ms_vret (by decide +kernel)
  · refine ms_aload_n (k := 0) (p' := 227) (by decide +kernel) rfl rfl ?_
    refine ms_getr (idx := 44) (ci := 9) (k := 16) (q := 1407) (p' := 230) (by decide +kernel) rfl (k_223 hw) (r_223_16 hw) (by decide) ?_
    refine ms_iload_n (k := 1) (p' := 231) (by decide +kernel) rfl rfl ?_
    refine ms_iconst (n := 0) (v := 0) (p' := 232) (by decide +kernel) rfl ?_
    refine ms_iast (p' := 233) (by decide +kernel) rfl (k_234 hw) (fun hj15 => ?_)
    refine ms_iinc (k := 1) (n := 1) (ls' := [.inr (.inl 223), .inl (mj_w (x1 + 1))]) (p' := 236) (by decide +kernel) rfl rfl rfl ?_
    refine ms_goto (off := (-16)) (p' := 220) (by decide +kernel) ?_
    rfl
theorem c_M_text {sw : Bool} {w : mj_W} (hw : wk sw w) (f : mj_F) (x1 : Int)  : mj_call yM_text w f [.inr (.inl 223), .inl x1] = mj_bi (mj_call yM_isIn w (mj_u f 223 0 0) [.inl x1, .inl 0, .inl (mj_u f 223 0 0 223 25)]) (fun f1 v2 => if ¬ v2 = 0 then mj_bu (mj_call yM_advance w (mj_u (mj_u (mj_u (mj_u (mj_u (mj_u (mj_u (mj_u (mj_u (mj_u (mj_u (mj_u f1 223 26 x1) 223 33 0) 223 31 0) 223 32 (-1)) 223 36 0) 223 37 0) 223 38 0) 223 39 0) 223 40 0) 223 41 0) 223 27 0) 223 25 0) [.inr (.inl 223)]) (fun f3 => mj_run yM_text w f3 84 [.inr (.inl 223), .inl x1] []) else some (w, f1, some (.inl (-2)))) := by
  show mj_run yM_text w f 0 [.inr (.inl 223), .inl x1] [] = _
  refine ms_aload_n (k := 0) (p' := 1) (by decide +kernel) rfl rfl ?_
  refine ms_iconst (n := 0) (v := 0) (p' := 2) (by decide +kernel) rfl ?_
  refine ms_puti (idx := 1) (ci := 9) (k := 0) (q := 1391) (p' := 5) (by decide +kernel) rfl (k_223 hw) ?_
  refine ms_iload_n (k := 1) (p' := 6) (by decide +kernel) rfl rfl ?_
  refine ms_iconst (n := 0) (v := 0) (p' := 7) (by decide +kernel) rfl ?_
  refine ms_aload_n (k := 0) (p' := 8) (by decide +kernel) rfl rfl ?_
  refine ms_geti (idx := 133) (ci := 9) (k := 25) (q := 1416) (p' := 11) (by decide +kernel) rfl (k_223 hw) ?_
  refine ms_stat_i (idx := 158) (cy := yM_isIn) (n := 3) (as := [.inl x1, .inl 0, .inl (mj_u f 223 0 0 223 25)]) (rest := []) (p' := 14) (by decide +kernel) rfl rfl rfl rfl rfl (fun f1 v2 => ?_)
  refine ms_if_ne (off := 6) (t := 20) (p' := 17) (by decide +kernel) rfl (fun hc => ?_) (fun hc => ?_)
  · refine ms_aload_n (k := 0) (p' := 21) (by decide +kernel) rfl rfl ?_
    refine ms_iload_n (k := 1) (p' := 22) (by decide +kernel) rfl rfl ?_
    refine ms_puti (idx := 142) (ci := 9) (k := 26) (q := 1417) (p' := 25) (by decide +kernel) rfl (k_223 hw) ?_
    refine ms_aload_n (k := 0) (p' := 26) (by decide +kernel) rfl rfl ?_
    refine ms_iconst (n := 0) (v := 0) (p' := 27) (by decide +kernel) rfl ?_
    refine Eq.trans (ms_putz (idx := 162) (ci := 9) (k := 33) (q := 1424) (p' := 30) (by decide +kernel) rfl (k_223 hw) (fun _ => ?_)) (mj_gd_pos (by decide) _)
    refine ms_aload_n (k := 0) (p' := 31) (by decide +kernel) rfl rfl ?_
    refine ms_iconst (n := 0) (v := 0) (p' := 32) (by decide +kernel) rfl ?_
    refine ms_puti (idx := 166) (ci := 9) (k := 31) (q := 1422) (p' := 35) (by decide +kernel) rfl (k_223 hw) ?_
    refine ms_aload_n (k := 0) (p' := 36) (by decide +kernel) rfl rfl ?_
    refine ms_iconst (n := (-1)) (v := (-1)) (p' := 37) (by decide +kernel) rfl ?_
    refine ms_puti (idx := 66) (ci := 9) (k := 32) (q := 1423) (p' := 40) (by decide +kernel) rfl (k_223 hw) ?_
    refine ms_aload_n (k := 0) (p' := 41) (by decide +kernel) rfl rfl ?_
    refine ms_iconst (n := 0) (v := 0) (p' := 42) (by decide +kernel) rfl ?_
    refine ms_puti (idx := 203) (ci := 9) (k := 36) (q := 1427) (p' := 45) (by decide +kernel) rfl (k_223 hw) ?_
    refine ms_aload_n (k := 0) (p' := 46) (by decide +kernel) rfl rfl ?_
    refine ms_iconst (n := 0) (v := 0) (p' := 47) (by decide +kernel) rfl ?_
    refine ms_puti (idx := 189) (ci := 9) (k := 37) (q := 1428) (p' := 50) (by decide +kernel) rfl (k_223 hw) ?_
    refine ms_aload_n (k := 0) (p' := 51) (by decide +kernel) rfl rfl ?_
    refine ms_iconst (n := 0) (v := 0) (p' := 52) (by decide +kernel) rfl ?_
    refine ms_puti (idx := 215) (ci := 9) (k := 38) (q := 1429) (p' := 55) (by decide +kernel) rfl (k_223 hw) ?_
    refine ms_aload_n (k := 0) (p' := 56) (by decide +kernel) rfl rfl ?_
    refine ms_iconst (n := 0) (v := 0) (p' := 57) (by decide +kernel) rfl ?_
    refine ms_puti (idx := 227) (ci := 9) (k := 39) (q := 1430) (p' := 60) (by decide +kernel) rfl (k_223 hw) ?_
    refine ms_aload_n (k := 0) (p' := 61) (by decide +kernel) rfl rfl ?_
    refine ms_iconst (n := 0) (v := 0) (p' := 62) (by decide +kernel) rfl ?_
    refine Eq.trans (ms_putz (idx := 224) (ci := 9) (k := 40) (q := 1431) (p' := 65) (by decide +kernel) rfl (k_223 hw) (fun _ => ?_)) (mj_gd_pos (by decide) _)
    refine ms_aload_n (k := 0) (p' := 66) (by decide +kernel) rfl rfl ?_
    refine ms_iconst (n := 0) (v := 0) (p' := 67) (by decide +kernel) rfl ?_
    refine ms_puti (idx := 230) (ci := 9) (k := 41) (q := 1432) (p' := 70) (by decide +kernel) rfl (k_223 hw) ?_
    refine ms_aload_n (k := 0) (p' := 71) (by decide +kernel) rfl rfl ?_
    refine ms_iconst (n := 0) (v := 0) (p' := 72) (by decide +kernel) rfl ?_
    refine ms_puti (idx := 139) (ci := 9) (k := 27) (q := 1418) (p' := 75) (by decide +kernel) rfl (k_223 hw) ?_
    refine ms_aload_n (k := 0) (p' := 76) (by decide +kernel) rfl rfl ?_
    refine ms_iconst (n := 0) (v := 0) (p' := 77) (by decide +kernel) rfl ?_
    refine ms_puti (idx := 133) (ci := 9) (k := 25) (q := 1416) (p' := 80) (by decide +kernel) rfl (k_223 hw) ?_
    refine ms_aload_n (k := 0) (p' := 81) (by decide +kernel) rfl rfl ?_
    refine ms_virt_u (idx := 178) (cy := yM_advance) (n := 0) (a := 223) (as := []) (rest := []) (p' := 84) (by decide +kernel) rfl rfl rfl rfl (k_223 hw) rfl (fun f3 => ?_)
    rfl
  · refine ms_bipush (n := (-2)) (v := (-2)) (p' := 19) (by decide +kernel) rfl ?_
    exact ms_iret (by decide +kernel)
theorem l_M_text_84 {sw : Bool} {w : mj_W} (hw : wk sw w) (f : mj_F) (x1 : Int)  : mj_run yM_text w f 84 [.inr (.inl 223), .inl x1] [] = if ¬ (f 223 33) = 0 then if (f 223 37) ≤ 0 then mj_bu (mj_call yM_must w f [.inr (.inl 223), .inl 0, .inl 4]) (fun f4 => if (f4 223 33) = 0 then mj_bu (mj_call yM_becomes w f4 [.inr (.inl 223)]) (fun f5 => some (w, f5, some (.inl (f5 223 1)))) else some (w, f4, some (.inl (-1)))) else mj_bu (mj_call yM_must w f [.inr (.inl 223), .inl 1, .inl 4]) (fun f6 => if (f6 223 33) = 0 then mj_bu (mj_call yM_becomes w f6 [.inr (.inl 223)]) (fun f7 => some (w, f7, some (.inl (f7 223 1)))) else some (w, f6, some (.inl (-1)))) else if (f 223 29) = 0 then if (f 223 37) ≤ 0 then mj_bu (mj_call yM_must w f [.inr (.inl 223), .inl 0, .inl 4]) (fun f8 => if (f8 223 33) = 0 then mj_bu (mj_call yM_becomes w f8 [.inr (.inl 223)]) (fun f9 => some (w, f9, some (.inl (f9 223 1)))) else some (w, f8, some (.inl (-1)))) else mj_bu (mj_call yM_must w f [.inr (.inl 223), .inl 1, .inl 4]) (fun f10 => if (f10 223 33) = 0 then mj_bu (mj_call yM_becomes w f10 [.inr (.inl 223)]) (fun f11 => some (w, f11, some (.inl (f11 223 1)))) else some (w, f10, some (.inl (-1)))) else mj_bu (mj_call yM_lineHere w f [.inr (.inl 223)]) (fun f12 => if ¬ (f12 223 29) = 3 then mj_bu (mj_call yM_must w f12 [.inr (.inl 223), .inl 0, .inl 1]) (fun f13 => if ¬ (f13 223 33) = 0 then mj_run yM_text w (mj_u f13 223 41 (mj_w ((f13 223 41) + 1))) 84 [.inr (.inl 223), .inl x1] [] else mj_bu (mj_call yM_advance w f13 [.inr (.inl 223)]) (fun f14 => mj_run yM_text w (mj_u f14 223 41 (mj_w ((f14 223 41) + 1))) 84 [.inr (.inl 223), .inl x1] [])) else mj_bu (mj_call yM_must w f12 [.inr (.inl 223), .inl 1, .inl 1]) (fun f15 => if ¬ (f15 223 33) = 0 then mj_run yM_text w (mj_u f15 223 41 (mj_w ((f15 223 41) + 1))) 84 [.inr (.inl 223), .inl x1] [] else mj_bu (mj_call yM_advance w f15 [.inr (.inl 223)]) (fun f16 => mj_run yM_text w (mj_u f16 223 41 (mj_w ((f16 223 41) + 1))) 84 [.inr (.inl 223), .inl x1] []))) := by
  refine ms_aload_n (k := 0) (p' := 85) (by decide +kernel) rfl rfl ?_
  refine ms_geti (idx := 162) (ci := 9) (k := 33) (q := 1424) (p' := 88) (by decide +kernel) rfl (k_223 hw) ?_
  refine ms_if_ne (off := 56) (t := 144) (p' := 91) (by decide +kernel) rfl (fun hc => ?_) (fun hc => ?_)
  · refine ms_aload_n (k := 0) (p' := 145) (by decide +kernel) rfl rfl ?_
    refine ms_aload_n (k := 0) (p' := 146) (by decide +kernel) rfl rfl ?_
    refine ms_geti (idx := 189) (ci := 9) (k := 37) (q := 1428) (p' := 149) (by decide +kernel) rfl (k_223 hw) ?_
    refine ms_if_le (off := 7) (t := 156) (p' := 152) (by decide +kernel) rfl (fun hc => ?_) (fun hc => ?_)
    · refine ms_iconst (n := 0) (v := 0) (p' := 157) (by decide +kernel) rfl ?_
      refine ms_iconst (n := 4) (v := 4) (p' := 158) (by decide +kernel) rfl ?_
      refine ms_virt_u (idx := 174) (cy := yM_must) (n := 2) (a := 223) (as := [.inl 0, .inl 4]) (rest := []) (p' := 161) (by decide +kernel) rfl rfl rfl rfl (k_223 hw) rfl (fun f4 => ?_)
      refine ms_aload_n (k := 0) (p' := 162) (by decide +kernel) rfl rfl ?_
      refine ms_geti (idx := 162) (ci := 9) (k := 33) (q := 1424) (p' := 165) (by decide +kernel) rfl (k_223 hw) ?_
      refine ms_if_eq (off := 5) (t := 170) (p' := 168) (by decide +kernel) rfl (fun hc => ?_) (fun hc => ?_)
      · refine ms_aload_n (k := 0) (p' := 171) (by decide +kernel) rfl rfl ?_
        refine ms_virt_u (idx := 236) (cy := yM_becomes) (n := 0) (a := 223) (as := []) (rest := []) (p' := 174) (by decide +kernel) rfl rfl rfl rfl (k_223 hw) rfl (fun f5 => ?_)
        refine ms_aload_n (k := 0) (p' := 175) (by decide +kernel) rfl rfl ?_
        refine ms_geti (idx := 239) (ci := 9) (k := 1) (q := 1392) (p' := 178) (by decide +kernel) rfl (k_223 hw) ?_
        exact ms_iret (by decide +kernel)
      · refine ms_iconst (n := (-1)) (v := (-1)) (p' := 169) (by decide +kernel) rfl ?_
        exact ms_iret (by decide +kernel)
    · refine ms_iconst (n := 1) (v := 1) (p' := 153) (by decide +kernel) rfl ?_
      refine ms_goto (off := 4) (p' := 157) (by decide +kernel) ?_
      refine ms_iconst (n := 4) (v := 4) (p' := 158) (by decide +kernel) rfl ?_
      refine ms_virt_u (idx := 174) (cy := yM_must) (n := 2) (a := 223) (as := [.inl 1, .inl 4]) (rest := []) (p' := 161) (by decide +kernel) rfl rfl rfl rfl (k_223 hw) rfl (fun f6 => ?_)
      refine ms_aload_n (k := 0) (p' := 162) (by decide +kernel) rfl rfl ?_
      refine ms_geti (idx := 162) (ci := 9) (k := 33) (q := 1424) (p' := 165) (by decide +kernel) rfl (k_223 hw) ?_
      refine ms_if_eq (off := 5) (t := 170) (p' := 168) (by decide +kernel) rfl (fun hc => ?_) (fun hc => ?_)
      · refine ms_aload_n (k := 0) (p' := 171) (by decide +kernel) rfl rfl ?_
        refine ms_virt_u (idx := 236) (cy := yM_becomes) (n := 0) (a := 223) (as := []) (rest := []) (p' := 174) (by decide +kernel) rfl rfl rfl rfl (k_223 hw) rfl (fun f7 => ?_)
        refine ms_aload_n (k := 0) (p' := 175) (by decide +kernel) rfl rfl ?_
        refine ms_geti (idx := 239) (ci := 9) (k := 1) (q := 1392) (p' := 178) (by decide +kernel) rfl (k_223 hw) ?_
        exact ms_iret (by decide +kernel)
      · refine ms_iconst (n := (-1)) (v := (-1)) (p' := 169) (by decide +kernel) rfl ?_
        exact ms_iret (by decide +kernel)
  · refine ms_aload_n (k := 0) (p' := 92) (by decide +kernel) rfl rfl ?_
    refine ms_geti (idx := 155) (ci := 9) (k := 29) (q := 1420) (p' := 95) (by decide +kernel) rfl (k_223 hw) ?_
    refine ms_if_eq (off := 49) (t := 144) (p' := 98) (by decide +kernel) rfl (fun hc => ?_) (fun hc => ?_)
    · refine ms_aload_n (k := 0) (p' := 145) (by decide +kernel) rfl rfl ?_
      refine ms_aload_n (k := 0) (p' := 146) (by decide +kernel) rfl rfl ?_
      refine ms_geti (idx := 189) (ci := 9) (k := 37) (q := 1428) (p' := 149) (by decide +kernel) rfl (k_223 hw) ?_
      refine ms_if_le (off := 7) (t := 156) (p' := 152) (by decide +kernel) rfl (fun hc => ?_) (fun hc => ?_)
      · refine ms_iconst (n := 0) (v := 0) (p' := 157) (by decide +kernel) rfl ?_
        refine ms_iconst (n := 4) (v := 4) (p' := 158) (by decide +kernel) rfl ?_
        refine ms_virt_u (idx := 174) (cy := yM_must) (n := 2) (a := 223) (as := [.inl 0, .inl 4]) (rest := []) (p' := 161) (by decide +kernel) rfl rfl rfl rfl (k_223 hw) rfl (fun f8 => ?_)
        refine ms_aload_n (k := 0) (p' := 162) (by decide +kernel) rfl rfl ?_
        refine ms_geti (idx := 162) (ci := 9) (k := 33) (q := 1424) (p' := 165) (by decide +kernel) rfl (k_223 hw) ?_
        refine ms_if_eq (off := 5) (t := 170) (p' := 168) (by decide +kernel) rfl (fun hc => ?_) (fun hc => ?_)
        · refine ms_aload_n (k := 0) (p' := 171) (by decide +kernel) rfl rfl ?_
          refine ms_virt_u (idx := 236) (cy := yM_becomes) (n := 0) (a := 223) (as := []) (rest := []) (p' := 174) (by decide +kernel) rfl rfl rfl rfl (k_223 hw) rfl (fun f9 => ?_)
          refine ms_aload_n (k := 0) (p' := 175) (by decide +kernel) rfl rfl ?_
          refine ms_geti (idx := 239) (ci := 9) (k := 1) (q := 1392) (p' := 178) (by decide +kernel) rfl (k_223 hw) ?_
          exact ms_iret (by decide +kernel)
        · refine ms_iconst (n := (-1)) (v := (-1)) (p' := 169) (by decide +kernel) rfl ?_
          exact ms_iret (by decide +kernel)
      · refine ms_iconst (n := 1) (v := 1) (p' := 153) (by decide +kernel) rfl ?_
        refine ms_goto (off := 4) (p' := 157) (by decide +kernel) ?_
        refine ms_iconst (n := 4) (v := 4) (p' := 158) (by decide +kernel) rfl ?_
        refine ms_virt_u (idx := 174) (cy := yM_must) (n := 2) (a := 223) (as := [.inl 1, .inl 4]) (rest := []) (p' := 161) (by decide +kernel) rfl rfl rfl rfl (k_223 hw) rfl (fun f10 => ?_)
        refine ms_aload_n (k := 0) (p' := 162) (by decide +kernel) rfl rfl ?_
        refine ms_geti (idx := 162) (ci := 9) (k := 33) (q := 1424) (p' := 165) (by decide +kernel) rfl (k_223 hw) ?_
        refine ms_if_eq (off := 5) (t := 170) (p' := 168) (by decide +kernel) rfl (fun hc => ?_) (fun hc => ?_)
        · refine ms_aload_n (k := 0) (p' := 171) (by decide +kernel) rfl rfl ?_
          refine ms_virt_u (idx := 236) (cy := yM_becomes) (n := 0) (a := 223) (as := []) (rest := []) (p' := 174) (by decide +kernel) rfl rfl rfl rfl (k_223 hw) rfl (fun f11 => ?_)
          refine ms_aload_n (k := 0) (p' := 175) (by decide +kernel) rfl rfl ?_
          refine ms_geti (idx := 239) (ci := 9) (k := 1) (q := 1392) (p' := 178) (by decide +kernel) rfl (k_223 hw) ?_
          exact ms_iret (by decide +kernel)
        · refine ms_iconst (n := (-1)) (v := (-1)) (p' := 169) (by decide +kernel) rfl ?_
          exact ms_iret (by decide +kernel)
    · refine ms_aload_n (k := 0) (p' := 99) (by decide +kernel) rfl rfl ?_
      refine ms_virt_u (idx := 233) (cy := yM_lineHere) (n := 0) (a := 223) (as := []) (rest := []) (p' := 102) (by decide +kernel) rfl rfl rfl rfl (k_223 hw) rfl (fun f12 => ?_)
      refine ms_aload_n (k := 0) (p' := 103) (by decide +kernel) rfl rfl ?_
      refine ms_aload_n (k := 0) (p' := 104) (by decide +kernel) rfl rfl ?_
      refine ms_geti (idx := 155) (ci := 9) (k := 29) (q := 1420) (p' := 107) (by decide +kernel) rfl (k_223 hw) ?_
      refine ms_iconst (n := 3) (v := 3) (p' := 108) (by decide +kernel) rfl ?_
      refine ms_icmp_ne (off := 7) (t := 115) (p' := 111) (by decide +kernel) rfl (fun hc => ?_) (fun hc => ?_)
      · refine ms_iconst (n := 0) (v := 0) (p' := 116) (by decide +kernel) rfl ?_
        refine ms_iconst (n := 1) (v := 1) (p' := 117) (by decide +kernel) rfl ?_
        refine ms_virt_u (idx := 174) (cy := yM_must) (n := 2) (a := 223) (as := [.inl 0, .inl 1]) (rest := []) (p' := 120) (by decide +kernel) rfl rfl rfl rfl (k_223 hw) rfl (fun f13 => ?_)
        refine ms_aload_n (k := 0) (p' := 121) (by decide +kernel) rfl rfl ?_
        refine ms_geti (idx := 162) (ci := 9) (k := 33) (q := 1424) (p' := 124) (by decide +kernel) rfl (k_223 hw) ?_
        refine ms_if_ne (off := 7) (t := 131) (p' := 127) (by decide +kernel) rfl (fun hc => ?_) (fun hc => ?_)
        · refine ms_aload_n (k := 0) (p' := 132) (by decide +kernel) rfl rfl ?_
          refine ms_dup_a (p' := 133) (by decide +kernel) rfl ?_
          refine ms_geti (idx := 230) (ci := 9) (k := 41) (q := 1432) (p' := 136) (by decide +kernel) rfl (k_223 hw) ?_
          refine ms_iconst (n := 1) (v := 1) (p' := 137) (by decide +kernel) rfl ?_
          refine ms_iadd (p' := 138) (by decide +kernel) rfl ?_
          refine ms_puti (idx := 230) (ci := 9) (k := 41) (q := 1432) (p' := 141) (by decide +kernel) rfl (k_223 hw) ?_
          refine ms_goto (off := (-57)) (p' := 84) (by decide +kernel) ?_
          rfl
        · refine ms_aload_n (k := 0) (p' := 128) (by decide +kernel) rfl rfl ?_
          refine ms_virt_u (idx := 178) (cy := yM_advance) (n := 0) (a := 223) (as := []) (rest := []) (p' := 131) (by decide +kernel) rfl rfl rfl rfl (k_223 hw) rfl (fun f14 => ?_)
          refine ms_aload_n (k := 0) (p' := 132) (by decide +kernel) rfl rfl ?_
          refine ms_dup_a (p' := 133) (by decide +kernel) rfl ?_
          refine ms_geti (idx := 230) (ci := 9) (k := 41) (q := 1432) (p' := 136) (by decide +kernel) rfl (k_223 hw) ?_
          refine ms_iconst (n := 1) (v := 1) (p' := 137) (by decide +kernel) rfl ?_
          refine ms_iadd (p' := 138) (by decide +kernel) rfl ?_
          refine ms_puti (idx := 230) (ci := 9) (k := 41) (q := 1432) (p' := 141) (by decide +kernel) rfl (k_223 hw) ?_
          refine ms_goto (off := (-57)) (p' := 84) (by decide +kernel) ?_
          rfl
      · refine ms_iconst (n := 1) (v := 1) (p' := 112) (by decide +kernel) rfl ?_
        refine ms_goto (off := 4) (p' := 116) (by decide +kernel) ?_
        refine ms_iconst (n := 1) (v := 1) (p' := 117) (by decide +kernel) rfl ?_
        refine ms_virt_u (idx := 174) (cy := yM_must) (n := 2) (a := 223) (as := [.inl 1, .inl 1]) (rest := []) (p' := 120) (by decide +kernel) rfl rfl rfl rfl (k_223 hw) rfl (fun f15 => ?_)
        refine ms_aload_n (k := 0) (p' := 121) (by decide +kernel) rfl rfl ?_
        refine ms_geti (idx := 162) (ci := 9) (k := 33) (q := 1424) (p' := 124) (by decide +kernel) rfl (k_223 hw) ?_
        refine ms_if_ne (off := 7) (t := 131) (p' := 127) (by decide +kernel) rfl (fun hc => ?_) (fun hc => ?_)
        · refine ms_aload_n (k := 0) (p' := 132) (by decide +kernel) rfl rfl ?_
          refine ms_dup_a (p' := 133) (by decide +kernel) rfl ?_
          refine ms_geti (idx := 230) (ci := 9) (k := 41) (q := 1432) (p' := 136) (by decide +kernel) rfl (k_223 hw) ?_
          refine ms_iconst (n := 1) (v := 1) (p' := 137) (by decide +kernel) rfl ?_
          refine ms_iadd (p' := 138) (by decide +kernel) rfl ?_
          refine ms_puti (idx := 230) (ci := 9) (k := 41) (q := 1432) (p' := 141) (by decide +kernel) rfl (k_223 hw) ?_
          refine ms_goto (off := (-57)) (p' := 84) (by decide +kernel) ?_
          rfl
        · refine ms_aload_n (k := 0) (p' := 128) (by decide +kernel) rfl rfl ?_
          refine ms_virt_u (idx := 178) (cy := yM_advance) (n := 0) (a := 223) (as := []) (rest := []) (p' := 131) (by decide +kernel) rfl rfl rfl rfl (k_223 hw) rfl (fun f16 => ?_)
          refine ms_aload_n (k := 0) (p' := 132) (by decide +kernel) rfl rfl ?_
          refine ms_dup_a (p' := 133) (by decide +kernel) rfl ?_
          refine ms_geti (idx := 230) (ci := 9) (k := 41) (q := 1432) (p' := 136) (by decide +kernel) rfl (k_223 hw) ?_
          refine ms_iconst (n := 1) (v := 1) (p' := 137) (by decide +kernel) rfl ?_
          refine ms_iadd (p' := 138) (by decide +kernel) rfl ?_
          refine ms_puti (idx := 230) (ci := 9) (k := 41) (q := 1432) (p' := 141) (by decide +kernel) rfl (k_223 hw) ?_
          refine ms_goto (off := (-57)) (p' := 84) (by decide +kernel) ?_
          rfl
theorem c_M_fault {sw : Bool} {w : mj_W} (hw : wk sw w) (f : mj_F) (x1 : Int)  : mj_call yM_fault w f [.inr (.inl 223), .inl x1] = if ¬ x1 = 0 then if ¬ x1 = 1 then some (w, (mj_u f 223 0 0), some (.inl (-1))) else some (w, (mj_u f 223 0 0), some (.inl (mj_u f 223 0 0 223 32))) else some (w, (mj_u f 223 0 0), some (.inl (mj_u f 223 0 0 223 31))) := by
  show mj_run yM_fault w f 0 [.inr (.inl 223), .inl x1] [] = _
  refine ms_aload_n (k := 0) (p' := 1) (by decide +kernel) rfl rfl ?_
  refine ms_iconst (n := 0) (v := 0) (p' := 2) (by decide +kernel) rfl ?_
  refine ms_puti (idx := 1) (ci := 9) (k := 0) (q := 1391) (p' := 5) (by decide +kernel) rfl (k_223 hw) ?_
  refine ms_iload_n (k := 1) (p' := 6) (by decide +kernel) rfl rfl ?_
  refine ms_if_ne (off := 10) (t := 16) (p' := 9) (by decide +kernel) rfl (fun hc => ?_) (fun hc => ?_)
  · refine ms_iload_n (k := 1) (p' := 17) (by decide +kernel) rfl rfl ?_
    refine ms_iconst (n := 1) (v := 1) (p' := 18) (by decide +kernel) rfl ?_
    refine ms_icmp_ne (off := 10) (t := 28) (p' := 21) (by decide +kernel) rfl (fun hc => ?_) (fun hc => ?_)
    · refine ms_iconst (n := (-1)) (v := (-1)) (p' := 29) (by decide +kernel) rfl ?_
      exact ms_iret (by decide +kernel)
    · refine ms_aload_n (k := 0) (p' := 22) (by decide +kernel) rfl rfl ?_
      refine ms_geti (idx := 66) (ci := 9) (k := 32) (q := 1423) (p' := 25) (by decide +kernel) rfl (k_223 hw) ?_
      refine ms_goto (off := 4) (p' := 29) (by decide +kernel) ?_
      exact ms_iret (by decide +kernel)
  · refine ms_aload_n (k := 0) (p' := 10) (by decide +kernel) rfl rfl ?_
    refine ms_geti (idx := 166) (ci := 9) (k := 31) (q := 1422) (p' := 13) (by decide +kernel) rfl (k_223 hw) ?_
    refine ms_goto (off := 16) (p' := 29) (by decide +kernel) ?_
    exact ms_iret (by decide +kernel)
theorem c_M_isPlace {sw : Bool} {w : mj_W} (hw : wk sw w) (f : mj_F) (x1 : Int)  : mj_call yM_isPlace w f [.inr (.inl 223), .inl x1] = mj_bi (mj_call yM_isIn w f [.inl x1, .inl 0, .inl (mj_w ((f 223 3) - 1))]) (fun f1 v2 => mj_gd (v2 = 0 ∨ v2 = 1) (some (w, f1, some (.inl v2)))) := by
  show mj_run yM_isPlace w f 0 [.inr (.inl 223), .inl x1] [] = _
  refine ms_iload_n (k := 1) (p' := 1) (by decide +kernel) rfl rfl ?_
  refine ms_iconst (n := 0) (v := 0) (p' := 2) (by decide +kernel) rfl ?_
  refine ms_aload_n (k := 0) (p' := 3) (by decide +kernel) rfl rfl ?_
  refine ms_geti (idx := 245) (ci := 9) (k := 3) (q := 1394) (p' := 6) (by decide +kernel) rfl (k_223 hw) ?_
  refine ms_iconst (n := 1) (v := 1) (p' := 7) (by decide +kernel) rfl ?_
  refine ms_isub (p' := 8) (by decide +kernel) rfl ?_
  refine ms_stat_i (idx := 158) (cy := yM_isIn) (n := 3) (as := [.inl x1, .inl 0, .inl (mj_w ((f 223 3) - 1))]) (rest := []) (p' := 11) (by decide +kernel) rfl rfl rfl rfl rfl (fun f1 v2 => ?_)
  exact ms_zret (by decide +kernel)
theorem c_M_firstNode {sw : Bool} {w : mj_W} (hw : wk sw w) (f : mj_F) (x1 : Int)  : mj_call yM_firstNode w f [.inr (.inl 223), .inl x1] = mj_run yM_firstNode w f 2 [.inr (.inl 223), .inl x1, .inl 0] [] := by
  show mj_run yM_firstNode w f 0 [.inr (.inl 223), .inl x1, .inr (.inr (.inr 0))] [] = _
  refine ms_iconst (n := 0) (v := 0) (p' := 1) (by decide +kernel) rfl ?_
  refine ms_istore_n (k := 2) (ls' := [.inr (.inl 223), .inl x1, .inl 0]) (p' := 2) (by decide +kernel) rfl (Nat.le_of_ble_eq_true rfl) rfl ?_
  rfl
theorem l_M_firstNode_2 {sw : Bool} {w : mj_W} (hw : wk sw w) (f : mj_F) (x1 : Int) (x2 : Int)  : mj_run yM_firstNode w f 2 [.inr (.inl 223), .inl x1, .inl x2] [] = if (f 223 23) ≤ x2 then some (w, f, some (.inl (-2))) else mj_gd (0 ≤ x2 ∧ x2 < ((60 : Nat) : Int)) (if ¬ (f 236 x2.toNat) = x1 then mj_run yM_firstNode w f 2 [.inr (.inl 223), .inl x1, .inl (mj_w (x2 + 1))] [] else some (w, f, some (.inl x2))) := by
  refine ms_iload_n (k := 2) (p' := 3) (by decide +kernel) rfl rfl ?_
  refine ms_aload_n (k := 0) (p' := 4) (by decide +kernel) rfl rfl ?_
  refine ms_geti (idx := 374) (ci := 9) (k := 23) (q := 1414) (p' := 7) (by decide +kernel) rfl (k_223 hw) ?_
  refine ms_icmp_ge (off := 21) (t := 28) (p' := 10) (by decide +kernel) rfl (fun hc => ?_) (fun hc => ?_)
  · refine ms_bipush (n := (-2)) (v := (-2)) (p' := 30) (by decide +kernel) rfl ?_
    exact ms_iret (by decide +kernel)
  · refine ms_aload_n (k := 0) (p' := 11) (by decide +kernel) rfl rfl ?_
    refine ms_getr (idx := 50) (ci := 9) (k := 19) (q := 1410) (p' := 14) (by decide +kernel) rfl (k_223 hw) (r_223_19 hw) (by decide) ?_
    refine ms_iload_n (k := 2) (p' := 15) (by decide +kernel) rfl rfl ?_
    refine ms_iald (p' := 16) (by decide +kernel) rfl (k_236 hw) (fun hj1 => ?_)
    refine ms_iload_n (k := 1) (p' := 17) (by decide +kernel) rfl rfl ?_
    refine ms_icmp_ne (off := 5) (t := 22) (p' := 20) (by decide +kernel) rfl (fun hc => ?_) (fun hc => ?_)
    · refine ms_iinc (k := 2) (n := 1) (ls' := [.inr (.inl 223), .inl x1, .inl (mj_w (x2 + 1))]) (p' := 25) (by decide +kernel) rfl rfl rfl ?_
      refine ms_goto (off := (-23)) (p' := 2) (by decide +kernel) ?_
      rfl
    · refine ms_iload_n (k := 2) (p' := 21) (by decide +kernel) rfl rfl ?_
      exact ms_iret (by decide +kernel)
theorem c_M_place {sw : Bool} {w : mj_W} (hw : wk sw w) (f : mj_F) (x1 : Int) (x2 : Int)  : mj_call yM_place w f [.inr (.inl 223), .inl x1, .inl x2] = mj_bi (mj_call yM_isPlace w f [.inr (.inl 223), .inl x1]) (fun f1 v2 => if v2 = 0 then if (mj_u f1 223 0 1 223 0) ≤ 0 then if ¬ x2 = 0 then if ¬ x2 = 3 then mj_run yM_place w (mj_u f1 223 0 1) 66 [.inr (.inl 223), .inl x1, .inl x2, .inl 0, .inl 0] [] else mj_bi (mj_call yM_firstNode w (mj_u f1 223 0 1) [.inr (.inl 223), .inl x1]) (fun f3 v4 => some (w, f3, some (.inl v4))) else mj_gd (0 ≤ x1 ∧ x1 < ((24 : Nat) : Int)) (some (w, (mj_u f1 223 0 1), some (.inl ((mj_u f1 223 0 1) 224 x1.toNat)))) else some (w, (mj_u f1 223 0 1), some (.inl 0)) else mj_bi (mj_call yM_isIn w f1 [.inl x2, .inl 0, .inl 4]) (fun f6 v7 => if v7 = 0 then if (mj_u f6 223 0 2 223 0) ≤ 0 then if ¬ x2 = 0 then if ¬ x2 = 3 then mj_run yM_place w (mj_u f6 223 0 2) 66 [.inr (.inl 223), .inl x1, .inl x2, .inl 0, .inl 0] [] else mj_bi (mj_call yM_firstNode w (mj_u f6 223 0 2) [.inr (.inl 223), .inl x1]) (fun f8 v9 => some (w, f8, some (.inl v9))) else mj_gd (0 ≤ x1 ∧ x1 < ((24 : Nat) : Int)) (some (w, (mj_u f6 223 0 2), some (.inl ((mj_u f6 223 0 2) 224 x1.toNat)))) else some (w, (mj_u f6 223 0 2), some (.inl 0)) else if (mj_u f6 223 0 0 223 0) ≤ 0 then if ¬ x2 = 0 then if ¬ x2 = 3 then mj_run yM_place w (mj_u f6 223 0 0) 66 [.inr (.inl 223), .inl x1, .inl x2, .inl 0, .inl 0] [] else mj_bi (mj_call yM_firstNode w (mj_u f6 223 0 0) [.inr (.inl 223), .inl x1]) (fun f11 v12 => some (w, f11, some (.inl v12))) else mj_gd (0 ≤ x1 ∧ x1 < ((24 : Nat) : Int)) (some (w, (mj_u f6 223 0 0), some (.inl ((mj_u f6 223 0 0) 224 x1.toNat)))) else some (w, (mj_u f6 223 0 0), some (.inl 0)))) := by
  show mj_run yM_place w f 0 [.inr (.inl 223), .inl x1, .inl x2, .inr (.inr (.inr 0)), .inr (.inr (.inr 0))] [] = _
  refine ms_aload_n (k := 0) (p' := 1) (by decide +kernel) rfl rfl ?_
  refine ms_aload_n (k := 0) (p' := 2) (by decide +kernel) rfl rfl ?_
  refine ms_iload_n (k := 1) (p' := 3) (by decide +kernel) rfl rfl ?_
  refine ms_virt_i (idx := 368) (cy := yM_isPlace) (n := 1) (a := 223) (as := [.inl x1]) (rest := [.inr (.inl 223)]) (p' := 6) (by decide +kernel) rfl rfl rfl rfl (k_223 hw) rfl (fun f1 v2 => ?_)
  refine ms_if_eq (off := 20) (t := 26) (p' := 9) (by decide +kernel) rfl (fun hc => ?_) (fun hc => ?_)
  · refine ms_iconst (n := 1) (v := 1) (p' := 27) (by decide +kernel) rfl ?_
    refine ms_puti (idx := 1) (ci := 9) (k := 0) (q := 1391) (p' := 30) (by decide +kernel) rfl (k_223 hw) ?_
    refine ms_aload_n (k := 0) (p' := 31) (by decide +kernel) rfl rfl ?_
    refine ms_geti (idx := 1) (ci := 9) (k := 0) (q := 1391) (p' := 34) (by decide +kernel) rfl (k_223 hw) ?_
    refine ms_if_le (off := 5) (t := 39) (p' := 37) (by decide +kernel) rfl (fun hc => ?_) (fun hc => ?_)
    · refine ms_iload_n (k := 2) (p' := 40) (by decide +kernel) rfl rfl ?_
      refine ms_if_ne (off := 10) (t := 50) (p' := 43) (by decide +kernel) rfl (fun hc => ?_) (fun hc => ?_)
      · refine ms_iload_n (k := 2) (p' := 51) (by decide +kernel) rfl rfl ?_
        refine ms_iconst (n := 3) (v := 3) (p' := 52) (by decide +kernel) rfl ?_
        refine ms_icmp_ne (off := 9) (t := 61) (p' := 55) (by decide +kernel) rfl (fun hc => ?_) (fun hc => ?_)
        · refine ms_iconst (n := 0) (v := 0) (p' := 62) (by decide +kernel) rfl ?_
          refine ms_istore_n (k := 3) (ls' := [.inr (.inl 223), .inl x1, .inl x2, .inl 0, .inr (.inr (.inr 0))]) (p' := 63) (by decide +kernel) rfl (Nat.le_of_ble_eq_true rfl) rfl ?_
          refine ms_iconst (n := 0) (v := 0) (p' := 64) (by decide +kernel) rfl ?_
          refine ms_istore (k := 4) (ls' := [.inr (.inl 223), .inl x1, .inl x2, .inl 0, .inl 0]) (p' := 66) (by decide +kernel) rfl (Nat.le_of_ble_eq_true rfl) rfl ?_
          rfl
        · refine ms_aload_n (k := 0) (p' := 56) (by decide +kernel) rfl rfl ?_
          refine ms_iload_n (k := 1) (p' := 57) (by decide +kernel) rfl rfl ?_
          refine ms_virt_i (idx := 411) (cy := yM_firstNode) (n := 1) (a := 223) (as := [.inl x1]) (rest := []) (p' := 60) (by decide +kernel) rfl rfl rfl rfl (k_223 hw) rfl (fun f3 v4 => ?_)
          exact ms_iret (by decide +kernel)
      · refine ms_aload_n (k := 0) (p' := 44) (by decide +kernel) rfl rfl ?_
        refine ms_getr (idx := 13) (ci := 9) (k := 6) (q := 1397) (p' := 47) (by decide +kernel) rfl (k_223 hw) (r_223_6 hw) (by decide) ?_
        refine ms_iload_n (k := 1) (p' := 48) (by decide +kernel) rfl rfl ?_
        refine ms_iald (p' := 49) (by decide +kernel) rfl (k_224 hw) (fun hj5 => ?_)
        exact ms_iret (by decide +kernel)
    · refine ms_iconst (n := 0) (v := 0) (p' := 38) (by decide +kernel) rfl ?_
      exact ms_iret (by decide +kernel)
  · refine ms_iload_n (k := 2) (p' := 10) (by decide +kernel) rfl rfl ?_
    refine ms_iconst (n := 0) (v := 0) (p' := 11) (by decide +kernel) rfl ?_
    refine ms_iconst (n := 4) (v := 4) (p' := 12) (by decide +kernel) rfl ?_
    refine ms_stat_i (idx := 158) (cy := yM_isIn) (n := 3) (as := [.inl x2, .inl 0, .inl 4]) (rest := [.inr (.inl 223)]) (p' := 15) (by decide +kernel) rfl rfl rfl rfl rfl (fun f6 v7 => ?_)
    refine ms_if_eq (off := 7) (t := 22) (p' := 18) (by decide +kernel) rfl (fun hc => ?_) (fun hc => ?_)
    · refine ms_iconst (n := 2) (v := 2) (p' := 23) (by decide +kernel) rfl ?_
      refine ms_goto (off := 4) (p' := 27) (by decide +kernel) ?_
      refine ms_puti (idx := 1) (ci := 9) (k := 0) (q := 1391) (p' := 30) (by decide +kernel) rfl (k_223 hw) ?_
      refine ms_aload_n (k := 0) (p' := 31) (by decide +kernel) rfl rfl ?_
      refine ms_geti (idx := 1) (ci := 9) (k := 0) (q := 1391) (p' := 34) (by decide +kernel) rfl (k_223 hw) ?_
      refine ms_if_le (off := 5) (t := 39) (p' := 37) (by decide +kernel) rfl (fun hc => ?_) (fun hc => ?_)
      · refine ms_iload_n (k := 2) (p' := 40) (by decide +kernel) rfl rfl ?_
        refine ms_if_ne (off := 10) (t := 50) (p' := 43) (by decide +kernel) rfl (fun hc => ?_) (fun hc => ?_)
        · refine ms_iload_n (k := 2) (p' := 51) (by decide +kernel) rfl rfl ?_
          refine ms_iconst (n := 3) (v := 3) (p' := 52) (by decide +kernel) rfl ?_
          refine ms_icmp_ne (off := 9) (t := 61) (p' := 55) (by decide +kernel) rfl (fun hc => ?_) (fun hc => ?_)
          · refine ms_iconst (n := 0) (v := 0) (p' := 62) (by decide +kernel) rfl ?_
            refine ms_istore_n (k := 3) (ls' := [.inr (.inl 223), .inl x1, .inl x2, .inl 0, .inr (.inr (.inr 0))]) (p' := 63) (by decide +kernel) rfl (Nat.le_of_ble_eq_true rfl) rfl ?_
            refine ms_iconst (n := 0) (v := 0) (p' := 64) (by decide +kernel) rfl ?_
            refine ms_istore (k := 4) (ls' := [.inr (.inl 223), .inl x1, .inl x2, .inl 0, .inl 0]) (p' := 66) (by decide +kernel) rfl (Nat.le_of_ble_eq_true rfl) rfl ?_
            rfl
          · refine ms_aload_n (k := 0) (p' := 56) (by decide +kernel) rfl rfl ?_
            refine ms_iload_n (k := 1) (p' := 57) (by decide +kernel) rfl rfl ?_
            refine ms_virt_i (idx := 411) (cy := yM_firstNode) (n := 1) (a := 223) (as := [.inl x1]) (rest := []) (p' := 60) (by decide +kernel) rfl rfl rfl rfl (k_223 hw) rfl (fun f8 v9 => ?_)
            exact ms_iret (by decide +kernel)
        · refine ms_aload_n (k := 0) (p' := 44) (by decide +kernel) rfl rfl ?_
          refine ms_getr (idx := 13) (ci := 9) (k := 6) (q := 1397) (p' := 47) (by decide +kernel) rfl (k_223 hw) (r_223_6 hw) (by decide) ?_
          refine ms_iload_n (k := 1) (p' := 48) (by decide +kernel) rfl rfl ?_
          refine ms_iald (p' := 49) (by decide +kernel) rfl (k_224 hw) (fun hj10 => ?_)
          exact ms_iret (by decide +kernel)
      · refine ms_iconst (n := 0) (v := 0) (p' := 38) (by decide +kernel) rfl ?_
        exact ms_iret (by decide +kernel)
    · refine ms_iconst (n := 0) (v := 0) (p' := 19) (by decide +kernel) rfl ?_
      refine ms_goto (off := 8) (p' := 27) (by decide +kernel) ?_
      refine ms_puti (idx := 1) (ci := 9) (k := 0) (q := 1391) (p' := 30) (by decide +kernel) rfl (k_223 hw) ?_
      refine ms_aload_n (k := 0) (p' := 31) (by decide +kernel) rfl rfl ?_
      refine ms_geti (idx := 1) (ci := 9) (k := 0) (q := 1391) (p' := 34) (by decide +kernel) rfl (k_223 hw) ?_
      refine ms_if_le (off := 5) (t := 39) (p' := 37) (by decide +kernel) rfl (fun hc => ?_) (fun hc => ?_)
      · refine ms_iload_n (k := 2) (p' := 40) (by decide +kernel) rfl rfl ?_
        refine ms_if_ne (off := 10) (t := 50) (p' := 43) (by decide +kernel) rfl (fun hc => ?_) (fun hc => ?_)
        · refine ms_iload_n (k := 2) (p' := 51) (by decide +kernel) rfl rfl ?_
          refine ms_iconst (n := 3) (v := 3) (p' := 52) (by decide +kernel) rfl ?_
          refine ms_icmp_ne (off := 9) (t := 61) (p' := 55) (by decide +kernel) rfl (fun hc => ?_) (fun hc => ?_)
          · refine ms_iconst (n := 0) (v := 0) (p' := 62) (by decide +kernel) rfl ?_
            refine ms_istore_n (k := 3) (ls' := [.inr (.inl 223), .inl x1, .inl x2, .inl 0, .inr (.inr (.inr 0))]) (p' := 63) (by decide +kernel) rfl (Nat.le_of_ble_eq_true rfl) rfl ?_
            refine ms_iconst (n := 0) (v := 0) (p' := 64) (by decide +kernel) rfl ?_
            refine ms_istore (k := 4) (ls' := [.inr (.inl 223), .inl x1, .inl x2, .inl 0, .inl 0]) (p' := 66) (by decide +kernel) rfl (Nat.le_of_ble_eq_true rfl) rfl ?_
            rfl
          · refine ms_aload_n (k := 0) (p' := 56) (by decide +kernel) rfl rfl ?_
            refine ms_iload_n (k := 1) (p' := 57) (by decide +kernel) rfl rfl ?_
            refine ms_virt_i (idx := 411) (cy := yM_firstNode) (n := 1) (a := 223) (as := [.inl x1]) (rest := []) (p' := 60) (by decide +kernel) rfl rfl rfl rfl (k_223 hw) rfl (fun f11 v12 => ?_)
            exact ms_iret (by decide +kernel)
        · refine ms_aload_n (k := 0) (p' := 44) (by decide +kernel) rfl rfl ?_
          refine ms_getr (idx := 13) (ci := 9) (k := 6) (q := 1397) (p' := 47) (by decide +kernel) rfl (k_223 hw) (r_223_6 hw) (by decide) ?_
          refine ms_iload_n (k := 1) (p' := 48) (by decide +kernel) rfl rfl ?_
          refine ms_iald (p' := 49) (by decide +kernel) rfl (k_224 hw) (fun hj13 => ?_)
          exact ms_iret (by decide +kernel)
      · refine ms_iconst (n := 0) (v := 0) (p' := 38) (by decide +kernel) rfl ?_
        exact ms_iret (by decide +kernel)
theorem l_M_place_66 {sw : Bool} {w : mj_W} (hw : wk sw w) (f : mj_F) (x1 : Int) (x2 : Int) (x3 : Int) (x4 : Int)  : mj_run yM_place w f 66 [.inr (.inl 223), .inl x1, .inl x2, .inl x3, .inl x4] [] = if (f 223 4) ≤ x4 then mj_run yM_place w f 127 [.inr (.inl 223), .inl x1, .inl x2, .inl x3, .inl 0] [] else if ¬ x2 = 1 then if ¬ x2 = 2 then if ¬ (-1) = x1 then mj_run yM_place w f 66 [.inr (.inl 223), .inl x1, .inl x2, .inl (mj_w (x3 + 0)), .inl (mj_w (x4 + 1))] [] else mj_run yM_place w f 66 [.inr (.inl 223), .inl x1, .inl x2, .inl (mj_w (x3 + 1)), .inl (mj_w (x4 + 1))] [] else mj_gd (0 ≤ x4 ∧ x4 < ((16 : Nat) : Int)) (if ¬ (f 229 x4.toNat) = x1 then mj_run yM_place w f 66 [.inr (.inl 223), .inl x1, .inl x2, .inl (mj_w (x3 + 0)), .inl (mj_w (x4 + 1))] [] else mj_run yM_place w f 66 [.inr (.inl 223), .inl x1, .inl x2, .inl (mj_w (x3 + 1)), .inl (mj_w (x4 + 1))] []) else mj_gd (0 ≤ x4 ∧ x4 < ((16 : Nat) : Int)) (if ¬ (f 228 x4.toNat) = x1 then mj_run yM_place w f 66 [.inr (.inl 223), .inl x1, .inl x2, .inl (mj_w (x3 + 0)), .inl (mj_w (x4 + 1))] [] else mj_run yM_place w f 66 [.inr (.inl 223), .inl x1, .inl x2, .inl (mj_w (x3 + 1)), .inl (mj_w (x4 + 1))] []) := by
  refine ms_iload (k := 4) (p' := 68) (by decide +kernel) rfl rfl ?_
  refine ms_aload_n (k := 0) (p' := 69) (by decide +kernel) rfl rfl ?_
  refine ms_geti (idx := 248) (ci := 9) (k := 4) (q := 1395) (p' := 72) (by decide +kernel) rfl (k_223 hw) ?_
  refine ms_icmp_ge (off := 52) (t := 124) (p' := 75) (by decide +kernel) rfl (fun hc => ?_) (fun hc => ?_)
  · refine ms_iconst (n := 0) (v := 0) (p' := 125) (by decide +kernel) rfl ?_
    refine ms_istore (k := 4) (ls' := [.inr (.inl 223), .inl x1, .inl x2, .inl x3, .inl 0]) (p' := 127) (by decide +kernel) rfl (Nat.le_of_ble_eq_true rfl) rfl ?_
    rfl
  · refine ms_iload_n (k := 3) (p' := 76) (by decide +kernel) rfl rfl ?_
    refine ms_iload_n (k := 2) (p' := 77) (by decide +kernel) rfl rfl ?_
    refine ms_iconst (n := 1) (v := 1) (p' := 78) (by decide +kernel) rfl ?_
    refine ms_icmp_ne (off := 13) (t := 91) (p' := 81) (by decide +kernel) rfl (fun hc => ?_) (fun hc => ?_)
    · refine ms_iload_n (k := 2) (p' := 92) (by decide +kernel) rfl rfl ?_
      refine ms_iconst (n := 2) (v := 2) (p' := 93) (by decide +kernel) rfl ?_
      refine ms_icmp_ne (off := 13) (t := 106) (p' := 96) (by decide +kernel) rfl (fun hc => ?_) (fun hc => ?_)
      · refine ms_iconst (n := (-1)) (v := (-1)) (p' := 107) (by decide +kernel) rfl ?_
        refine ms_iload_n (k := 1) (p' := 108) (by decide +kernel) rfl rfl ?_
        refine ms_icmp_ne (off := 7) (t := 115) (p' := 111) (by decide +kernel) rfl (fun hc => ?_) (fun hc => ?_)
        · refine ms_iconst (n := 0) (v := 0) (p' := 116) (by decide +kernel) rfl ?_
          refine ms_iadd (p' := 117) (by decide +kernel) rfl ?_
          refine ms_istore_n (k := 3) (ls' := [.inr (.inl 223), .inl x1, .inl x2, .inl (mj_w (x3 + 0)), .inl x4]) (p' := 118) (by decide +kernel) rfl (Nat.le_of_ble_eq_true rfl) rfl ?_
          refine ms_iinc (k := 4) (n := 1) (ls' := [.inr (.inl 223), .inl x1, .inl x2, .inl (mj_w (x3 + 0)), .inl (mj_w (x4 + 1))]) (p' := 121) (by decide +kernel) rfl rfl rfl ?_
          refine ms_goto (off := (-55)) (p' := 66) (by decide +kernel) ?_
          rfl
        · refine ms_iconst (n := 1) (v := 1) (p' := 112) (by decide +kernel) rfl ?_
          refine ms_goto (off := 4) (p' := 116) (by decide +kernel) ?_
          refine ms_iadd (p' := 117) (by decide +kernel) rfl ?_
          refine ms_istore_n (k := 3) (ls' := [.inr (.inl 223), .inl x1, .inl x2, .inl (mj_w (x3 + 1)), .inl x4]) (p' := 118) (by decide +kernel) rfl (Nat.le_of_ble_eq_true rfl) rfl ?_
          refine ms_iinc (k := 4) (n := 1) (ls' := [.inr (.inl 223), .inl x1, .inl x2, .inl (mj_w (x3 + 1)), .inl (mj_w (x4 + 1))]) (p' := 121) (by decide +kernel) rfl rfl rfl ?_
          refine ms_goto (off := (-55)) (p' := 66) (by decide +kernel) ?_
          rfl
      · refine ms_aload_n (k := 0) (p' := 97) (by decide +kernel) rfl rfl ?_
        refine ms_getr (idx := 29) (ci := 9) (k := 11) (q := 1402) (p' := 100) (by decide +kernel) rfl (k_223 hw) (r_223_11 hw) (by decide) ?_
        refine ms_iload (k := 4) (p' := 102) (by decide +kernel) rfl rfl ?_
        refine ms_iald (p' := 103) (by decide +kernel) rfl (k_229 hw) (fun hj14 => ?_)
        refine ms_goto (off := 4) (p' := 107) (by decide +kernel) ?_
        refine ms_iload_n (k := 1) (p' := 108) (by decide +kernel) rfl rfl ?_
        refine ms_icmp_ne (off := 7) (t := 115) (p' := 111) (by decide +kernel) rfl (fun hc => ?_) (fun hc => ?_)
        · refine ms_iconst (n := 0) (v := 0) (p' := 116) (by decide +kernel) rfl ?_
          refine ms_iadd (p' := 117) (by decide +kernel) rfl ?_
          refine ms_istore_n (k := 3) (ls' := [.inr (.inl 223), .inl x1, .inl x2, .inl (mj_w (x3 + 0)), .inl x4]) (p' := 118) (by decide +kernel) rfl (Nat.le_of_ble_eq_true rfl) rfl ?_
          refine ms_iinc (k := 4) (n := 1) (ls' := [.inr (.inl 223), .inl x1, .inl x2, .inl (mj_w (x3 + 0)), .inl (mj_w (x4 + 1))]) (p' := 121) (by decide +kernel) rfl rfl rfl ?_
          refine ms_goto (off := (-55)) (p' := 66) (by decide +kernel) ?_
          rfl
        · refine ms_iconst (n := 1) (v := 1) (p' := 112) (by decide +kernel) rfl ?_
          refine ms_goto (off := 4) (p' := 116) (by decide +kernel) ?_
          refine ms_iadd (p' := 117) (by decide +kernel) rfl ?_
          refine ms_istore_n (k := 3) (ls' := [.inr (.inl 223), .inl x1, .inl x2, .inl (mj_w (x3 + 1)), .inl x4]) (p' := 118) (by decide +kernel) rfl (Nat.le_of_ble_eq_true rfl) rfl ?_
          refine ms_iinc (k := 4) (n := 1) (ls' := [.inr (.inl 223), .inl x1, .inl x2, .inl (mj_w (x3 + 1)), .inl (mj_w (x4 + 1))]) (p' := 121) (by decide +kernel) rfl rfl rfl ?_
          refine ms_goto (off := (-55)) (p' := 66) (by decide +kernel) ?_
          rfl
    · refine ms_aload_n (k := 0) (p' := 82) (by decide +kernel) rfl rfl ?_
      refine ms_getr (idx := 26) (ci := 9) (k := 10) (q := 1401) (p' := 85) (by decide +kernel) rfl (k_223 hw) (r_223_10 hw) (by decide) ?_
      refine ms_iload (k := 4) (p' := 87) (by decide +kernel) rfl rfl ?_
      refine ms_iald (p' := 88) (by decide +kernel) rfl (k_228 hw) (fun hj15 => ?_)
      refine ms_goto (off := 19) (p' := 107) (by decide +kernel) ?_
      refine ms_iload_n (k := 1) (p' := 108) (by decide +kernel) rfl rfl ?_
      refine ms_icmp_ne (off := 7) (t := 115) (p' := 111) (by decide +kernel) rfl (fun hc => ?_) (fun hc => ?_)
      · refine ms_iconst (n := 0) (v := 0) (p' := 116) (by decide +kernel) rfl ?_
        refine ms_iadd (p' := 117) (by decide +kernel) rfl ?_
        refine ms_istore_n (k := 3) (ls' := [.inr (.inl 223), .inl x1, .inl x2, .inl (mj_w (x3 + 0)), .inl x4]) (p' := 118) (by decide +kernel) rfl (Nat.le_of_ble_eq_true rfl) rfl ?_
        refine ms_iinc (k := 4) (n := 1) (ls' := [.inr (.inl 223), .inl x1, .inl x2, .inl (mj_w (x3 + 0)), .inl (mj_w (x4 + 1))]) (p' := 121) (by decide +kernel) rfl rfl rfl ?_
        refine ms_goto (off := (-55)) (p' := 66) (by decide +kernel) ?_
        rfl
      · refine ms_iconst (n := 1) (v := 1) (p' := 112) (by decide +kernel) rfl ?_
        refine ms_goto (off := 4) (p' := 116) (by decide +kernel) ?_
        refine ms_iadd (p' := 117) (by decide +kernel) rfl ?_
        refine ms_istore_n (k := 3) (ls' := [.inr (.inl 223), .inl x1, .inl x2, .inl (mj_w (x3 + 1)), .inl x4]) (p' := 118) (by decide +kernel) rfl (Nat.le_of_ble_eq_true rfl) rfl ?_
        refine ms_iinc (k := 4) (n := 1) (ls' := [.inr (.inl 223), .inl x1, .inl x2, .inl (mj_w (x3 + 1)), .inl (mj_w (x4 + 1))]) (p' := 121) (by decide +kernel) rfl rfl rfl ?_
        refine ms_goto (off := (-55)) (p' := 66) (by decide +kernel) ?_
        rfl
theorem l_M_place_127 {sw : Bool} {w : mj_W} (hw : wk sw w) (f : mj_F) (x1 : Int) (x2 : Int) (x3 : Int) (x4 : Int)  : mj_run yM_place w f 127 [.inr (.inl 223), .inl x1, .inl x2, .inl x3, .inl x4] [] = if (f 223 23) ≤ x4 then some (w, f, some (.inl x3)) else if ¬ x2 = 4 then mj_run yM_place w f 127 [.inr (.inl 223), .inl x1, .inl x2, .inl (mj_w (x3 + 0)), .inl (mj_w (x4 + 1))] [] else mj_gd (0 ≤ x4 ∧ x4 < ((60 : Nat) : Int)) (if ¬ (f 236 x4.toNat) = x1 then mj_run yM_place w f 127 [.inr (.inl 223), .inl x1, .inl x2, .inl (mj_w (x3 + 0)), .inl (mj_w (x4 + 1))] [] else mj_run yM_place w f 127 [.inr (.inl 223), .inl x1, .inl x2, .inl (mj_w (x3 + 1)), .inl (mj_w (x4 + 1))] []) := by
  refine ms_iload (k := 4) (p' := 129) (by decide +kernel) rfl rfl ?_
  refine ms_aload_n (k := 0) (p' := 130) (by decide +kernel) rfl rfl ?_
  refine ms_geti (idx := 374) (ci := 9) (k := 23) (q := 1414) (p' := 133) (by decide +kernel) rfl (k_223 hw) ?_
  refine ms_icmp_ge (off := 33) (t := 166) (p' := 136) (by decide +kernel) rfl (fun hc => ?_) (fun hc => ?_)
  · refine ms_iload_n (k := 3) (p' := 167) (by decide +kernel) rfl rfl ?_
    exact ms_iret (by decide +kernel)
  · refine ms_iload_n (k := 3) (p' := 137) (by decide +kernel) rfl rfl ?_
    refine ms_iload_n (k := 2) (p' := 138) (by decide +kernel) rfl rfl ?_
    refine ms_iconst (n := 4) (v := 4) (p' := 139) (by decide +kernel) rfl ?_
    refine ms_icmp_ne (off := 18) (t := 157) (p' := 142) (by decide +kernel) rfl (fun hc => ?_) (fun hc => ?_)
    · refine ms_iconst (n := 0) (v := 0) (p' := 158) (by decide +kernel) rfl ?_
      refine ms_iadd (p' := 159) (by decide +kernel) rfl ?_
      refine ms_istore_n (k := 3) (ls' := [.inr (.inl 223), .inl x1, .inl x2, .inl (mj_w (x3 + 0)), .inl x4]) (p' := 160) (by decide +kernel) rfl (Nat.le_of_ble_eq_true rfl) rfl ?_
      refine ms_iinc (k := 4) (n := 1) (ls' := [.inr (.inl 223), .inl x1, .inl x2, .inl (mj_w (x3 + 0)), .inl (mj_w (x4 + 1))]) (p' := 163) (by decide +kernel) rfl rfl rfl ?_
      refine ms_goto (off := (-36)) (p' := 127) (by decide +kernel) ?_
      rfl
    · refine ms_aload_n (k := 0) (p' := 143) (by decide +kernel) rfl rfl ?_
      refine ms_getr (idx := 50) (ci := 9) (k := 19) (q := 1410) (p' := 146) (by decide +kernel) rfl (k_223 hw) (r_223_19 hw) (by decide) ?_
      refine ms_iload (k := 4) (p' := 148) (by decide +kernel) rfl rfl ?_
      refine ms_iald (p' := 149) (by decide +kernel) rfl (k_236 hw) (fun hj16 => ?_)
      refine ms_iload_n (k := 1) (p' := 150) (by decide +kernel) rfl rfl ?_
      refine ms_icmp_ne (off := 7) (t := 157) (p' := 153) (by decide +kernel) rfl (fun hc => ?_) (fun hc => ?_)
      · refine ms_iconst (n := 0) (v := 0) (p' := 158) (by decide +kernel) rfl ?_
        refine ms_iadd (p' := 159) (by decide +kernel) rfl ?_
        refine ms_istore_n (k := 3) (ls' := [.inr (.inl 223), .inl x1, .inl x2, .inl (mj_w (x3 + 0)), .inl x4]) (p' := 160) (by decide +kernel) rfl (Nat.le_of_ble_eq_true rfl) rfl ?_
        refine ms_iinc (k := 4) (n := 1) (ls' := [.inr (.inl 223), .inl x1, .inl x2, .inl (mj_w (x3 + 0)), .inl (mj_w (x4 + 1))]) (p' := 163) (by decide +kernel) rfl rfl rfl ?_
        refine ms_goto (off := (-36)) (p' := 127) (by decide +kernel) ?_
        rfl
      · refine ms_iconst (n := 1) (v := 1) (p' := 154) (by decide +kernel) rfl ?_
        refine ms_goto (off := 4) (p' := 158) (by decide +kernel) ?_
        refine ms_iadd (p' := 159) (by decide +kernel) rfl ?_
        refine ms_istore_n (k := 3) (ls' := [.inr (.inl 223), .inl x1, .inl x2, .inl (mj_w (x3 + 1)), .inl x4]) (p' := 160) (by decide +kernel) rfl (Nat.le_of_ble_eq_true rfl) rfl ?_
        refine ms_iinc (k := 4) (n := 1) (ls' := [.inr (.inl 223), .inl x1, .inl x2, .inl (mj_w (x3 + 1)), .inl (mj_w (x4 + 1))]) (p' := 163) (by decide +kernel) rfl rfl rfl ?_
        refine ms_goto (off := (-36)) (p' := 127) (by decide +kernel) ?_
        rfl
theorem c_M_thrown {sw : Bool} {w : mj_W} (hw : wk sw w) (f : mj_F)   : mj_call yM_thrown w f [.inr (.inl 223)] = some (w, f, some (.inl (f 223 0))) := by
  show mj_run yM_thrown w f 0 [.inr (.inl 223)] [] = _
  refine ms_aload_n (k := 0) (p' := 1) (by decide +kernel) rfl rfl ?_
  refine ms_geti (idx := 1) (ci := 9) (k := 0) (q := 1391) (p' := 4) (by decide +kernel) rfl (k_223 hw) ?_
  exact ms_iret (by decide +kernel)
theorem c_M_isEdge {sw : Bool} {w : mj_W} (hw : wk sw w) (f : mj_F) (x1 : Int)  : mj_call yM_isEdge w f [.inr (.inl 223), .inl x1] = mj_bi (mj_call yM_isIn w f [.inl x1, .inl 0, .inl (mj_w ((f 223 4) - 1))]) (fun f1 v2 => mj_gd (v2 = 0 ∨ v2 = 1) (some (w, f1, some (.inl v2)))) := by
  show mj_run yM_isEdge w f 0 [.inr (.inl 223), .inl x1] [] = _
  refine ms_iload_n (k := 1) (p' := 1) (by decide +kernel) rfl rfl ?_
  refine ms_iconst (n := 0) (v := 0) (p' := 2) (by decide +kernel) rfl ?_
  refine ms_aload_n (k := 0) (p' := 3) (by decide +kernel) rfl rfl ?_
  refine ms_geti (idx := 248) (ci := 9) (k := 4) (q := 1395) (p' := 6) (by decide +kernel) rfl (k_223 hw) ?_
  refine ms_iconst (n := 1) (v := 1) (p' := 7) (by decide +kernel) rfl ?_
  refine ms_isub (p' := 8) (by decide +kernel) rfl ?_
  refine ms_stat_i (idx := 158) (cy := yM_isIn) (n := 3) (as := [.inl x1, .inl 0, .inl (mj_w ((f 223 4) - 1))]) (rest := []) (p' := 11) (by decide +kernel) rfl rfl rfl rfl rfl (fun f1 v2 => ?_)
  exact ms_zret (by decide +kernel)
theorem c_M_edge {sw : Bool} {w : mj_W} (hw : wk sw w) (f : mj_F) (x1 : Int) (x2 : Int)  : mj_call yM_edge w f [.inr (.inl 223), .inl x1, .inl x2] = mj_bi (mj_call yM_isEdge w f [.inr (.inl 223), .inl x1]) (fun f1 v2 => if v2 = 0 then if (mj_u f1 223 0 1 223 0) ≤ 0 then if 2 ≤ x2 then if 4 ≤ x2 then mj_run yM_edge w (mj_u f1 223 0 1) 95 [.inr (.inl 223), .inl x1, .inl x2, .inl 0] [] else if ¬ x2 = 2 then mj_gd (0 ≤ x1 ∧ x1 < ((16 : Nat) : Int)) (some (w, (mj_u f1 223 0 1), some (.inl ((mj_u f1 223 0 1) 230 x1.toNat)))) else mj_gd (0 ≤ (mj_w (8 + x1)) ∧ (mj_w (8 + x1)) < ((24 : Nat) : Int)) (some (w, (mj_u f1 223 0 1), some (.inl ((mj_u f1 223 0 1) 224 (mj_w (8 + x1)).toNat)))) else if ¬ x2 = 0 then mj_gd (0 ≤ x1 ∧ x1 < ((16 : Nat) : Int)) (some (w, (mj_u f1 223 0 1), some (.inl ((mj_u f1 223 0 1) 229 x1.toNat)))) else mj_gd (0 ≤ x1 ∧ x1 < ((16 : Nat) : Int)) (some (w, (mj_u f1 223 0 1), some (.inl ((mj_u f1 223 0 1) 228 x1.toNat)))) else some (w, (mj_u f1 223 0 1), some (.inl 0)) else mj_bi (mj_call yM_isIn w f1 [.inl x2, .inl 0, .inl 4]) (fun f7 v8 => if v8 = 0 then if (mj_u f7 223 0 2 223 0) ≤ 0 then if 2 ≤ x2 then if 4 ≤ x2 then mj_run yM_edge w (mj_u f7 223 0 2) 95 [.inr (.inl 223), .inl x1, .inl x2, .inl 0] [] else if ¬ x2 = 2 then mj_gd (0 ≤ x1 ∧ x1 < ((16 : Nat) : Int)) (some (w, (mj_u f7 223 0 2), some (.inl ((mj_u f7 223 0 2) 230 x1.toNat)))) else mj_gd (0 ≤ (mj_w (8 + x1)) ∧ (mj_w (8 + x1)) < ((24 : Nat) : Int)) (some (w, (mj_u f7 223 0 2), some (.inl ((mj_u f7 223 0 2) 224 (mj_w (8 + x1)).toNat)))) else if ¬ x2 = 0 then mj_gd (0 ≤ x1 ∧ x1 < ((16 : Nat) : Int)) (some (w, (mj_u f7 223 0 2), some (.inl ((mj_u f7 223 0 2) 229 x1.toNat)))) else mj_gd (0 ≤ x1 ∧ x1 < ((16 : Nat) : Int)) (some (w, (mj_u f7 223 0 2), some (.inl ((mj_u f7 223 0 2) 228 x1.toNat)))) else some (w, (mj_u f7 223 0 2), some (.inl 0)) else if (mj_u f7 223 0 0 223 0) ≤ 0 then if 2 ≤ x2 then if 4 ≤ x2 then mj_run yM_edge w (mj_u f7 223 0 0) 95 [.inr (.inl 223), .inl x1, .inl x2, .inl 0] [] else if ¬ x2 = 2 then mj_gd (0 ≤ x1 ∧ x1 < ((16 : Nat) : Int)) (some (w, (mj_u f7 223 0 0), some (.inl ((mj_u f7 223 0 0) 230 x1.toNat)))) else mj_gd (0 ≤ (mj_w (8 + x1)) ∧ (mj_w (8 + x1)) < ((24 : Nat) : Int)) (some (w, (mj_u f7 223 0 0), some (.inl ((mj_u f7 223 0 0) 224 (mj_w (8 + x1)).toNat)))) else if ¬ x2 = 0 then mj_gd (0 ≤ x1 ∧ x1 < ((16 : Nat) : Int)) (some (w, (mj_u f7 223 0 0), some (.inl ((mj_u f7 223 0 0) 229 x1.toNat)))) else mj_gd (0 ≤ x1 ∧ x1 < ((16 : Nat) : Int)) (some (w, (mj_u f7 223 0 0), some (.inl ((mj_u f7 223 0 0) 228 x1.toNat)))) else some (w, (mj_u f7 223 0 0), some (.inl 0)))) := by
  show mj_run yM_edge w f 0 [.inr (.inl 223), .inl x1, .inl x2, .inr (.inr (.inr 0))] [] = _
  refine ms_aload_n (k := 0) (p' := 1) (by decide +kernel) rfl rfl ?_
  refine ms_aload_n (k := 0) (p' := 2) (by decide +kernel) rfl rfl ?_
  refine ms_iload_n (k := 1) (p' := 3) (by decide +kernel) rfl rfl ?_
  refine ms_virt_i (idx := 359) (cy := yM_isEdge) (n := 1) (a := 223) (as := [.inl x1]) (rest := [.inr (.inl 223)]) (p' := 6) (by decide +kernel) rfl rfl rfl rfl (k_223 hw) rfl (fun f1 v2 => ?_)
  refine ms_if_eq (off := 20) (t := 26) (p' := 9) (by decide +kernel) rfl (fun hc => ?_) (fun hc => ?_)
  · refine ms_iconst (n := 1) (v := 1) (p' := 27) (by decide +kernel) rfl ?_
    refine ms_puti (idx := 1) (ci := 9) (k := 0) (q := 1391) (p' := 30) (by decide +kernel) rfl (k_223 hw) ?_
    refine ms_aload_n (k := 0) (p' := 31) (by decide +kernel) rfl rfl ?_
    refine ms_geti (idx := 1) (ci := 9) (k := 0) (q := 1391) (p' := 34) (by decide +kernel) rfl (k_223 hw) ?_
    refine ms_if_le (off := 5) (t := 39) (p' := 37) (by decide +kernel) rfl (fun hc => ?_) (fun hc => ?_)
    · refine ms_iload_n (k := 2) (p' := 40) (by decide +kernel) rfl rfl ?_
      refine ms_iconst (n := 2) (v := 2) (p' := 41) (by decide +kernel) rfl ?_
      refine ms_icmp_ge (off := 23) (t := 64) (p' := 44) (by decide +kernel) rfl (fun hc => ?_) (fun hc => ?_)
      · refine ms_iload_n (k := 2) (p' := 65) (by decide +kernel) rfl rfl ?_
        refine ms_iconst (n := 4) (v := 4) (p' := 66) (by decide +kernel) rfl ?_
        refine ms_icmp_ge (off := 27) (t := 93) (p' := 69) (by decide +kernel) rfl (fun hc => ?_) (fun hc => ?_)
        · refine ms_iconst (n := 0) (v := 0) (p' := 94) (by decide +kernel) rfl ?_
          refine ms_istore_n (k := 3) (ls' := [.inr (.inl 223), .inl x1, .inl x2, .inl 0]) (p' := 95) (by decide +kernel) rfl (Nat.le_of_ble_eq_true rfl) rfl ?_
          rfl
        · refine ms_iload_n (k := 2) (p' := 70) (by decide +kernel) rfl rfl ?_
          refine ms_iconst (n := 2) (v := 2) (p' := 71) (by decide +kernel) rfl ?_
          refine ms_icmp_ne (off := 15) (t := 86) (p' := 74) (by decide +kernel) rfl (fun hc => ?_) (fun hc => ?_)
          · refine ms_aload_n (k := 0) (p' := 87) (by decide +kernel) rfl rfl ?_
            refine ms_getr (idx := 32) (ci := 9) (k := 12) (q := 1403) (p' := 90) (by decide +kernel) rfl (k_223 hw) (r_223_12 hw) (by decide) ?_
            refine ms_iload_n (k := 1) (p' := 91) (by decide +kernel) rfl rfl ?_
            refine ms_iald (p' := 92) (by decide +kernel) rfl (k_230 hw) (fun hj3 => ?_)
            exact ms_iret (by decide +kernel)
          · refine ms_aload_n (k := 0) (p' := 75) (by decide +kernel) rfl rfl ?_
            refine ms_getr (idx := 13) (ci := 9) (k := 6) (q := 1397) (p' := 78) (by decide +kernel) rfl (k_223 hw) (r_223_6 hw) (by decide) ?_
            refine ms_bipush (n := 8) (v := 8) (p' := 80) (by decide +kernel) rfl ?_
            refine ms_iload_n (k := 1) (p' := 81) (by decide +kernel) rfl rfl ?_
            refine ms_iadd (p' := 82) (by decide +kernel) rfl ?_
            refine ms_iald (p' := 83) (by decide +kernel) rfl (k_224 hw) (fun hj4 => ?_)
            refine ms_goto (off := 9) (p' := 92) (by decide +kernel) ?_
            exact ms_iret (by decide +kernel)
      · refine ms_iload_n (k := 2) (p' := 45) (by decide +kernel) rfl rfl ?_
        refine ms_if_ne (off := 12) (t := 57) (p' := 48) (by decide +kernel) rfl (fun hc => ?_) (fun hc => ?_)
        · refine ms_aload_n (k := 0) (p' := 58) (by decide +kernel) rfl rfl ?_
          refine ms_getr (idx := 29) (ci := 9) (k := 11) (q := 1402) (p' := 61) (by decide +kernel) rfl (k_223 hw) (r_223_11 hw) (by decide) ?_
          refine ms_iload_n (k := 1) (p' := 62) (by decide +kernel) rfl rfl ?_
          refine ms_iald (p' := 63) (by decide +kernel) rfl (k_229 hw) (fun hj5 => ?_)
          exact ms_iret (by decide +kernel)
        · refine ms_aload_n (k := 0) (p' := 49) (by decide +kernel) rfl rfl ?_
          refine ms_getr (idx := 26) (ci := 9) (k := 10) (q := 1401) (p' := 52) (by decide +kernel) rfl (k_223 hw) (r_223_10 hw) (by decide) ?_
          refine ms_iload_n (k := 1) (p' := 53) (by decide +kernel) rfl rfl ?_
          refine ms_iald (p' := 54) (by decide +kernel) rfl (k_228 hw) (fun hj6 => ?_)
          refine ms_goto (off := 9) (p' := 63) (by decide +kernel) ?_
          exact ms_iret (by decide +kernel)
    · refine ms_iconst (n := 0) (v := 0) (p' := 38) (by decide +kernel) rfl ?_
      exact ms_iret (by decide +kernel)
  · refine ms_iload_n (k := 2) (p' := 10) (by decide +kernel) rfl rfl ?_
    refine ms_iconst (n := 0) (v := 0) (p' := 11) (by decide +kernel) rfl ?_
    refine ms_iconst (n := 4) (v := 4) (p' := 12) (by decide +kernel) rfl ?_
    refine ms_stat_i (idx := 158) (cy := yM_isIn) (n := 3) (as := [.inl x2, .inl 0, .inl 4]) (rest := [.inr (.inl 223)]) (p' := 15) (by decide +kernel) rfl rfl rfl rfl rfl (fun f7 v8 => ?_)
    refine ms_if_eq (off := 7) (t := 22) (p' := 18) (by decide +kernel) rfl (fun hc => ?_) (fun hc => ?_)
    · refine ms_iconst (n := 2) (v := 2) (p' := 23) (by decide +kernel) rfl ?_
      refine ms_goto (off := 4) (p' := 27) (by decide +kernel) ?_
      refine ms_puti (idx := 1) (ci := 9) (k := 0) (q := 1391) (p' := 30) (by decide +kernel) rfl (k_223 hw) ?_
      refine ms_aload_n (k := 0) (p' := 31) (by decide +kernel) rfl rfl ?_
      refine ms_geti (idx := 1) (ci := 9) (k := 0) (q := 1391) (p' := 34) (by decide +kernel) rfl (k_223 hw) ?_
      refine ms_if_le (off := 5) (t := 39) (p' := 37) (by decide +kernel) rfl (fun hc => ?_) (fun hc => ?_)
      · refine ms_iload_n (k := 2) (p' := 40) (by decide +kernel) rfl rfl ?_
        refine ms_iconst (n := 2) (v := 2) (p' := 41) (by decide +kernel) rfl ?_
        refine ms_icmp_ge (off := 23) (t := 64) (p' := 44) (by decide +kernel) rfl (fun hc => ?_) (fun hc => ?_)
        · refine ms_iload_n (k := 2) (p' := 65) (by decide +kernel) rfl rfl ?_
          refine ms_iconst (n := 4) (v := 4) (p' := 66) (by decide +kernel) rfl ?_
          refine ms_icmp_ge (off := 27) (t := 93) (p' := 69) (by decide +kernel) rfl (fun hc => ?_) (fun hc => ?_)
          · refine ms_iconst (n := 0) (v := 0) (p' := 94) (by decide +kernel) rfl ?_
            refine ms_istore_n (k := 3) (ls' := [.inr (.inl 223), .inl x1, .inl x2, .inl 0]) (p' := 95) (by decide +kernel) rfl (Nat.le_of_ble_eq_true rfl) rfl ?_
            rfl
          · refine ms_iload_n (k := 2) (p' := 70) (by decide +kernel) rfl rfl ?_
            refine ms_iconst (n := 2) (v := 2) (p' := 71) (by decide +kernel) rfl ?_
            refine ms_icmp_ne (off := 15) (t := 86) (p' := 74) (by decide +kernel) rfl (fun hc => ?_) (fun hc => ?_)
            · refine ms_aload_n (k := 0) (p' := 87) (by decide +kernel) rfl rfl ?_
              refine ms_getr (idx := 32) (ci := 9) (k := 12) (q := 1403) (p' := 90) (by decide +kernel) rfl (k_223 hw) (r_223_12 hw) (by decide) ?_
              refine ms_iload_n (k := 1) (p' := 91) (by decide +kernel) rfl rfl ?_
              refine ms_iald (p' := 92) (by decide +kernel) rfl (k_230 hw) (fun hj9 => ?_)
              exact ms_iret (by decide +kernel)
            · refine ms_aload_n (k := 0) (p' := 75) (by decide +kernel) rfl rfl ?_
              refine ms_getr (idx := 13) (ci := 9) (k := 6) (q := 1397) (p' := 78) (by decide +kernel) rfl (k_223 hw) (r_223_6 hw) (by decide) ?_
              refine ms_bipush (n := 8) (v := 8) (p' := 80) (by decide +kernel) rfl ?_
              refine ms_iload_n (k := 1) (p' := 81) (by decide +kernel) rfl rfl ?_
              refine ms_iadd (p' := 82) (by decide +kernel) rfl ?_
              refine ms_iald (p' := 83) (by decide +kernel) rfl (k_224 hw) (fun hj10 => ?_)
              refine ms_goto (off := 9) (p' := 92) (by decide +kernel) ?_
              exact ms_iret (by decide +kernel)
        · refine ms_iload_n (k := 2) (p' := 45) (by decide +kernel) rfl rfl ?_
          refine ms_if_ne (off := 12) (t := 57) (p' := 48) (by decide +kernel) rfl (fun hc => ?_) (fun hc => ?_)
          · refine ms_aload_n (k := 0) (p' := 58) (by decide +kernel) rfl rfl ?_
            refine ms_getr (idx := 29) (ci := 9) (k := 11) (q := 1402) (p' := 61) (by decide +kernel) rfl (k_223 hw) (r_223_11 hw) (by decide) ?_
            refine ms_iload_n (k := 1) (p' := 62) (by decide +kernel) rfl rfl ?_
            refine ms_iald (p' := 63) (by decide +kernel) rfl (k_229 hw) (fun hj11 => ?_)
            exact ms_iret (by decide +kernel)
          · refine ms_aload_n (k := 0) (p' := 49) (by decide +kernel) rfl rfl ?_
            refine ms_getr (idx := 26) (ci := 9) (k := 10) (q := 1401) (p' := 52) (by decide +kernel) rfl (k_223 hw) (r_223_10 hw) (by decide) ?_
            refine ms_iload_n (k := 1) (p' := 53) (by decide +kernel) rfl rfl ?_
            refine ms_iald (p' := 54) (by decide +kernel) rfl (k_228 hw) (fun hj12 => ?_)
            refine ms_goto (off := 9) (p' := 63) (by decide +kernel) ?_
            exact ms_iret (by decide +kernel)
      · refine ms_iconst (n := 0) (v := 0) (p' := 38) (by decide +kernel) rfl ?_
        exact ms_iret (by decide +kernel)
    · refine ms_iconst (n := 0) (v := 0) (p' := 19) (by decide +kernel) rfl ?_
      refine ms_goto (off := 8) (p' := 27) (by decide +kernel) ?_
      refine ms_puti (idx := 1) (ci := 9) (k := 0) (q := 1391) (p' := 30) (by decide +kernel) rfl (k_223 hw) ?_
      refine ms_aload_n (k := 0) (p' := 31) (by decide +kernel) rfl rfl ?_
      refine ms_geti (idx := 1) (ci := 9) (k := 0) (q := 1391) (p' := 34) (by decide +kernel) rfl (k_223 hw) ?_
      refine ms_if_le (off := 5) (t := 39) (p' := 37) (by decide +kernel) rfl (fun hc => ?_) (fun hc => ?_)
      · refine ms_iload_n (k := 2) (p' := 40) (by decide +kernel) rfl rfl ?_
        refine ms_iconst (n := 2) (v := 2) (p' := 41) (by decide +kernel) rfl ?_
        refine ms_icmp_ge (off := 23) (t := 64) (p' := 44) (by decide +kernel) rfl (fun hc => ?_) (fun hc => ?_)
        · refine ms_iload_n (k := 2) (p' := 65) (by decide +kernel) rfl rfl ?_
          refine ms_iconst (n := 4) (v := 4) (p' := 66) (by decide +kernel) rfl ?_
          refine ms_icmp_ge (off := 27) (t := 93) (p' := 69) (by decide +kernel) rfl (fun hc => ?_) (fun hc => ?_)
          · refine ms_iconst (n := 0) (v := 0) (p' := 94) (by decide +kernel) rfl ?_
            refine ms_istore_n (k := 3) (ls' := [.inr (.inl 223), .inl x1, .inl x2, .inl 0]) (p' := 95) (by decide +kernel) rfl (Nat.le_of_ble_eq_true rfl) rfl ?_
            rfl
          · refine ms_iload_n (k := 2) (p' := 70) (by decide +kernel) rfl rfl ?_
            refine ms_iconst (n := 2) (v := 2) (p' := 71) (by decide +kernel) rfl ?_
            refine ms_icmp_ne (off := 15) (t := 86) (p' := 74) (by decide +kernel) rfl (fun hc => ?_) (fun hc => ?_)
            · refine ms_aload_n (k := 0) (p' := 87) (by decide +kernel) rfl rfl ?_
              refine ms_getr (idx := 32) (ci := 9) (k := 12) (q := 1403) (p' := 90) (by decide +kernel) rfl (k_223 hw) (r_223_12 hw) (by decide) ?_
              refine ms_iload_n (k := 1) (p' := 91) (by decide +kernel) rfl rfl ?_
              refine ms_iald (p' := 92) (by decide +kernel) rfl (k_230 hw) (fun hj13 => ?_)
              exact ms_iret (by decide +kernel)
            · refine ms_aload_n (k := 0) (p' := 75) (by decide +kernel) rfl rfl ?_
              refine ms_getr (idx := 13) (ci := 9) (k := 6) (q := 1397) (p' := 78) (by decide +kernel) rfl (k_223 hw) (r_223_6 hw) (by decide) ?_
              refine ms_bipush (n := 8) (v := 8) (p' := 80) (by decide +kernel) rfl ?_
              refine ms_iload_n (k := 1) (p' := 81) (by decide +kernel) rfl rfl ?_
              refine ms_iadd (p' := 82) (by decide +kernel) rfl ?_
              refine ms_iald (p' := 83) (by decide +kernel) rfl (k_224 hw) (fun hj14 => ?_)
              refine ms_goto (off := 9) (p' := 92) (by decide +kernel) ?_
              exact ms_iret (by decide +kernel)
        · refine ms_iload_n (k := 2) (p' := 45) (by decide +kernel) rfl rfl ?_
          refine ms_if_ne (off := 12) (t := 57) (p' := 48) (by decide +kernel) rfl (fun hc => ?_) (fun hc => ?_)
          · refine ms_aload_n (k := 0) (p' := 58) (by decide +kernel) rfl rfl ?_
            refine ms_getr (idx := 29) (ci := 9) (k := 11) (q := 1402) (p' := 61) (by decide +kernel) rfl (k_223 hw) (r_223_11 hw) (by decide) ?_
            refine ms_iload_n (k := 1) (p' := 62) (by decide +kernel) rfl rfl ?_
            refine ms_iald (p' := 63) (by decide +kernel) rfl (k_229 hw) (fun hj15 => ?_)
            exact ms_iret (by decide +kernel)
          · refine ms_aload_n (k := 0) (p' := 49) (by decide +kernel) rfl rfl ?_
            refine ms_getr (idx := 26) (ci := 9) (k := 10) (q := 1401) (p' := 52) (by decide +kernel) rfl (k_223 hw) (r_223_10 hw) (by decide) ?_
            refine ms_iload_n (k := 1) (p' := 53) (by decide +kernel) rfl rfl ?_
            refine ms_iald (p' := 54) (by decide +kernel) rfl (k_228 hw) (fun hj16 => ?_)
            refine ms_goto (off := 9) (p' := 63) (by decide +kernel) ?_
            exact ms_iret (by decide +kernel)
      · refine ms_iconst (n := 0) (v := 0) (p' := 38) (by decide +kernel) rfl ?_
        exact ms_iret (by decide +kernel)
theorem l_M_edge_95 {sw : Bool} {w : mj_W} (hw : wk sw w) (f : mj_F) (x1 : Int) (x2 : Int) (x3 : Int)  : mj_run yM_edge w f 95 [.inr (.inl 223), .inl x1, .inl x2, .inl x3] [] = if (f 223 23) ≤ x3 then some (w, f, some (.inl 0)) else mj_gd (0 ≤ x3 ∧ x3 < ((60 : Nat) : Int)) (if ¬ (f 238 x3.toNat) = x1 then mj_run yM_edge w f 95 [.inr (.inl 223), .inl x1, .inl x2, .inl (mj_w (x3 + 1))] [] else some (w, f, some (.inl 1))) := by
  refine ms_iload_n (k := 3) (p' := 96) (by decide +kernel) rfl rfl ?_
  refine ms_aload_n (k := 0) (p' := 97) (by decide +kernel) rfl rfl ?_
  refine ms_geti (idx := 374) (ci := 9) (k := 23) (q := 1414) (p' := 100) (by decide +kernel) rfl (k_223 hw) ?_
  refine ms_icmp_ge (off := 21) (t := 121) (p' := 103) (by decide +kernel) rfl (fun hc => ?_) (fun hc => ?_)
  · refine ms_iconst (n := 0) (v := 0) (p' := 122) (by decide +kernel) rfl ?_
    exact ms_iret (by decide +kernel)
  · refine ms_aload_n (k := 0) (p' := 104) (by decide +kernel) rfl rfl ?_
    refine ms_getr (idx := 56) (ci := 9) (k := 21) (q := 1412) (p' := 107) (by decide +kernel) rfl (k_223 hw) (r_223_21 hw) (by decide) ?_
    refine ms_iload_n (k := 3) (p' := 108) (by decide +kernel) rfl rfl ?_
    refine ms_iald (p' := 109) (by decide +kernel) rfl (k_238 hw) (fun hj17 => ?_)
    refine ms_iload_n (k := 1) (p' := 110) (by decide +kernel) rfl rfl ?_
    refine ms_icmp_ne (off := 5) (t := 115) (p' := 113) (by decide +kernel) rfl (fun hc => ?_) (fun hc => ?_)
    · refine ms_iinc (k := 3) (n := 1) (ls' := [.inr (.inl 223), .inl x1, .inl x2, .inl (mj_w (x3 + 1))]) (p' := 118) (by decide +kernel) rfl rfl rfl ?_
      refine ms_goto (off := (-23)) (p' := 95) (by decide +kernel) ?_
      rfl
    · refine ms_iconst (n := 1) (v := 1) (p' := 114) (by decide +kernel) rfl ?_
      exact ms_iret (by decide +kernel)
theorem c_M_when {sw : Bool} {w : mj_W} (hw : wk sw w) (f : mj_F) (x1 : Int) (x2 : Int) (x3 : Int)  : mj_call yM_when w f [.inr (.inl 223), .inl x1, .inl x2, .inl x3] = mj_bi (mj_call yM_isEdge w (mj_u f 223 0 0) [.inr (.inl 223), .inl x1]) (fun f1 v2 => if v2 = 0 then some (w, f1, some (.inl (-1))) else if x2 < 0 then some (w, f1, some (.inl (-1))) else mj_bi (mj_call yM_isIn w f1 [.inl x3, .inl 0, .inl 2]) (fun f3 v4 => if ¬ v4 = 0 then mj_gd (0 ≤ (mj_w (8 + x1)) ∧ (mj_w (8 + x1)) < ((24 : Nat) : Int)) (if x2 < (f3 224 (mj_w (8 + x1)).toNat) then if ¬ x3 = 0 then if ¬ x3 = 1 then mj_gd (0 ≤ (mj_w ((mj_w (6 * (mj_w (8 + x1)))) + x2)) ∧ (mj_w ((mj_w (6 * (mj_w (8 + x1)))) + x2)) < ((144 : Nat) : Int)) (some (w, f3, some (.inl (f3 227 (mj_w ((mj_w (6 * (mj_w (8 + x1)))) + x2)).toNat)))) else mj_gd (0 ≤ (mj_w ((mj_w (6 * (mj_w (8 + x1)))) + x2)) ∧ (mj_w ((mj_w (6 * (mj_w (8 + x1)))) + x2)) < ((144 : Nat) : Int)) (some (w, f3, some (.inl (f3 226 (mj_w ((mj_w (6 * (mj_w (8 + x1)))) + x2)).toNat)))) else mj_gd (0 ≤ (mj_w ((mj_w (6 * (mj_w (8 + x1)))) + x2)) ∧ (mj_w ((mj_w (6 * (mj_w (8 + x1)))) + x2)) < ((144 : Nat) : Int)) (some (w, f3, some (.inl (f3 225 (mj_w ((mj_w (6 * (mj_w (8 + x1)))) + x2)).toNat)))) else some (w, f3, some (.inl (-2)))) else some (w, f3, some (.inl (-1))))) := by
  show mj_run yM_when w f 0 [.inr (.inl 223), .inl x1, .inl x2, .inl x3, .inr (.inr (.inr 0))] [] = _
  refine ms_aload_n (k := 0) (p' := 1) (by decide +kernel) rfl rfl ?_
  refine ms_iconst (n := 0) (v := 0) (p' := 2) (by decide +kernel) rfl ?_
  refine ms_puti (idx := 1) (ci := 9) (k := 0) (q := 1391) (p' := 5) (by decide +kernel) rfl (k_223 hw) ?_
  refine ms_aload_n (k := 0) (p' := 6) (by decide +kernel) rfl rfl ?_
  refine ms_iload_n (k := 1) (p' := 7) (by decide +kernel) rfl rfl ?_
  refine ms_virt_i (idx := 359) (cy := yM_isEdge) (n := 1) (a := 223) (as := [.inl x1]) (rest := []) (p' := 10) (by decide +kernel) rfl rfl rfl rfl (k_223 hw) rfl (fun f1 v2 => ?_)
  refine ms_if_eq (off := 16) (t := 26) (p' := 13) (by decide +kernel) rfl (fun hc => ?_) (fun hc => ?_)
  · refine ms_iconst (n := (-1)) (v := (-1)) (p' := 27) (by decide +kernel) rfl ?_
    exact ms_iret (by decide +kernel)
  · refine ms_iload_n (k := 2) (p' := 14) (by decide +kernel) rfl rfl ?_
    refine ms_if_lt (off := 12) (t := 26) (p' := 17) (by decide +kernel) rfl (fun hc => ?_) (fun hc => ?_)
    · refine ms_iconst (n := (-1)) (v := (-1)) (p' := 27) (by decide +kernel) rfl ?_
      exact ms_iret (by decide +kernel)
    · refine ms_iload_n (k := 3) (p' := 18) (by decide +kernel) rfl rfl ?_
      refine ms_iconst (n := 0) (v := 0) (p' := 19) (by decide +kernel) rfl ?_
      refine ms_iconst (n := 2) (v := 2) (p' := 20) (by decide +kernel) rfl ?_
      refine ms_stat_i (idx := 158) (cy := yM_isIn) (n := 3) (as := [.inl x3, .inl 0, .inl 2]) (rest := []) (p' := 23) (by decide +kernel) rfl rfl rfl rfl rfl (fun f3 v4 => ?_)
      refine ms_if_ne (off := 5) (t := 28) (p' := 26) (by decide +kernel) rfl (fun hc => ?_) (fun hc => ?_)
      · refine ms_iload_n (k := 2) (p' := 29) (by decide +kernel) rfl rfl ?_
        refine ms_aload_n (k := 0) (p' := 30) (by decide +kernel) rfl rfl ?_
        refine ms_getr (idx := 13) (ci := 9) (k := 6) (q := 1397) (p' := 33) (by decide +kernel) rfl (k_223 hw) (r_223_6 hw) (by decide) ?_
        refine ms_bipush (n := 8) (v := 8) (p' := 35) (by decide +kernel) rfl ?_
        refine ms_iload_n (k := 1) (p' := 36) (by decide +kernel) rfl rfl ?_
        refine ms_iadd (p' := 37) (by decide +kernel) rfl ?_
        refine ms_iald (p' := 38) (by decide +kernel) rfl (k_224 hw) (fun hj5 => ?_)
        refine ms_icmp_lt (off := 6) (t := 44) (p' := 41) (by decide +kernel) rfl (fun hc => ?_) (fun hc => ?_)
        · refine ms_bipush (n := 6) (v := 6) (p' := 46) (by decide +kernel) rfl ?_
          refine ms_bipush (n := 8) (v := 8) (p' := 48) (by decide +kernel) rfl ?_
          refine ms_iload_n (k := 1) (p' := 49) (by decide +kernel) rfl rfl ?_
          refine ms_iadd (p' := 50) (by decide +kernel) rfl ?_
          refine ms_imul (p' := 51) (by decide +kernel) rfl ?_
          refine ms_iload_n (k := 2) (p' := 52) (by decide +kernel) rfl rfl ?_
          refine ms_iadd (p' := 53) (by decide +kernel) rfl ?_
          refine ms_istore (k := 4) (ls' := [.inr (.inl 223), .inl x1, .inl x2, .inl x3, .inl (mj_w ((mj_w (6 * (mj_w (8 + x1)))) + x2))]) (p' := 55) (by decide +kernel) rfl (Nat.le_of_ble_eq_true rfl) rfl ?_
          refine ms_iload_n (k := 3) (p' := 56) (by decide +kernel) rfl rfl ?_
          refine ms_if_ne (off := 13) (t := 69) (p' := 59) (by decide +kernel) rfl (fun hc => ?_) (fun hc => ?_)
          · refine ms_iload_n (k := 3) (p' := 70) (by decide +kernel) rfl rfl ?_
            refine ms_iconst (n := 1) (v := 1) (p' := 71) (by decide +kernel) rfl ?_
            refine ms_icmp_ne (off := 13) (t := 84) (p' := 74) (by decide +kernel) rfl (fun hc => ?_) (fun hc => ?_)
            · refine ms_aload_n (k := 0) (p' := 85) (by decide +kernel) rfl rfl ?_
              refine ms_getr (idx := 23) (ci := 9) (k := 9) (q := 1400) (p' := 88) (by decide +kernel) rfl (k_223 hw) (r_223_9 hw) (by decide) ?_
              refine ms_iload (k := 4) (p' := 90) (by decide +kernel) rfl rfl ?_
              refine ms_iald (p' := 91) (by decide +kernel) rfl (k_227 hw) (fun hj6 => ?_)
              exact ms_iret (by decide +kernel)
            · refine ms_aload_n (k := 0) (p' := 75) (by decide +kernel) rfl rfl ?_
              refine ms_getr (idx := 20) (ci := 9) (k := 8) (q := 1399) (p' := 78) (by decide +kernel) rfl (k_223 hw) (r_223_8 hw) (by decide) ?_
              refine ms_iload (k := 4) (p' := 80) (by decide +kernel) rfl rfl ?_
              refine ms_iald (p' := 81) (by decide +kernel) rfl (k_226 hw) (fun hj7 => ?_)
              refine ms_goto (off := 10) (p' := 91) (by decide +kernel) ?_
              exact ms_iret (by decide +kernel)
          · refine ms_aload_n (k := 0) (p' := 60) (by decide +kernel) rfl rfl ?_
            refine ms_getr (idx := 17) (ci := 9) (k := 7) (q := 1398) (p' := 63) (by decide +kernel) rfl (k_223 hw) (r_223_7 hw) (by decide) ?_
            refine ms_iload (k := 4) (p' := 65) (by decide +kernel) rfl rfl ?_
            refine ms_iald (p' := 66) (by decide +kernel) rfl (k_225 hw) (fun hj8 => ?_)
            refine ms_goto (off := 25) (p' := 91) (by decide +kernel) ?_
            exact ms_iret (by decide +kernel)
        · refine ms_bipush (n := (-2)) (v := (-2)) (p' := 43) (by decide +kernel) rfl ?_
          exact ms_iret (by decide +kernel)
      · refine ms_iconst (n := (-1)) (v := (-1)) (p' := 27) (by decide +kernel) rfl ?_
        exact ms_iret (by decide +kernel)
theorem c_M_isTwo {sw : Bool} {w : mj_W} (hw : wk sw w) (f : mj_F) (x0 : Int)  : mj_call yM_isTwo w f [.inl x0] = mj_bi (mj_call yM_isIn w f [.inl x0, .inl 0, .inl 1]) (fun f1 v2 => mj_gd (v2 = 0 ∨ v2 = 1) (some (w, f1, some (.inl v2)))) := by
  show mj_run yM_isTwo w f 0 [.inl x0] [] = _
  refine ms_iload_n (k := 0) (p' := 1) (by decide +kernel) rfl rfl ?_
  refine ms_iconst (n := 0) (v := 0) (p' := 2) (by decide +kernel) rfl ?_
  refine ms_iconst (n := 1) (v := 1) (p' := 3) (by decide +kernel) rfl ?_
  refine ms_stat_i (idx := 158) (cy := yM_isIn) (n := 3) (as := [.inl x0, .inl 0, .inl 1]) (rest := []) (p' := 6) (by decide +kernel) rfl rfl rfl rfl rfl (fun f1 v2 => ?_)
  exact ms_zret (by decide +kernel)
theorem c_M_set {sw : Bool} {w : mj_W} (hw : wk sw w) (f : mj_F) (x1 : Int) (x2 : Int) (x3 : Int)  : mj_call yM_set w f [.inr (.inl 223), .inl x1, .inl x2, .inl x3] = mj_bi (mj_call yM_isEdge w (mj_u f 223 0 0) [.inr (.inl 223), .inl x1]) (fun f1 v2 => if v2 = 0 then some (w, f1, some (.inl (-1))) else if x2 < 0 then some (w, f1, some (.inl (-1))) else mj_bi (mj_call yM_isTwo w f1 [.inl x3]) (fun f3 v4 => if ¬ v4 = 0 then mj_gd (0 ≤ x1 ∧ x1 < ((16 : Nat) : Int)) (if x2 < (f3 230 x1.toNat) then if ¬ x3 = 0 then mj_gd (0 ≤ (mj_w ((mj_w (4 * x1)) + x2)) ∧ (mj_w ((mj_w (4 * x1)) + x2)) < ((64 : Nat) : Int)) (some (w, f3, some (.inl (f3 232 (mj_w ((mj_w (4 * x1)) + x2)).toNat)))) else mj_gd (0 ≤ (mj_w ((mj_w (4 * x1)) + x2)) ∧ (mj_w ((mj_w (4 * x1)) + x2)) < ((64 : Nat) : Int)) (some (w, f3, some (.inl (f3 231 (mj_w ((mj_w (4 * x1)) + x2)).toNat)))) else some (w, f3, some (.inl (-2)))) else some (w, f3, some (.inl (-1))))) := by
  show mj_run yM_set w f 0 [.inr (.inl 223), .inl x1, .inl x2, .inl x3] [] = _
  refine ms_aload_n (k := 0) (p' := 1) (by decide +kernel) rfl rfl ?_
  refine ms_iconst (n := 0) (v := 0) (p' := 2) (by decide +kernel) rfl ?_
  refine ms_puti (idx := 1) (ci := 9) (k := 0) (q := 1391) (p' := 5) (by decide +kernel) rfl (k_223 hw) ?_
  refine ms_aload_n (k := 0) (p' := 6) (by decide +kernel) rfl rfl ?_
  refine ms_iload_n (k := 1) (p' := 7) (by decide +kernel) rfl rfl ?_
  refine ms_virt_i (idx := 359) (cy := yM_isEdge) (n := 1) (a := 223) (as := [.inl x1]) (rest := []) (p' := 10) (by decide +kernel) rfl rfl rfl rfl (k_223 hw) rfl (fun f1 v2 => ?_)
  refine ms_if_eq (off := 14) (t := 24) (p' := 13) (by decide +kernel) rfl (fun hc => ?_) (fun hc => ?_)
  · refine ms_iconst (n := (-1)) (v := (-1)) (p' := 25) (by decide +kernel) rfl ?_
    exact ms_iret (by decide +kernel)
  · refine ms_iload_n (k := 2) (p' := 14) (by decide +kernel) rfl rfl ?_
    refine ms_if_lt (off := 10) (t := 24) (p' := 17) (by decide +kernel) rfl (fun hc => ?_) (fun hc => ?_)
    · refine ms_iconst (n := (-1)) (v := (-1)) (p' := 25) (by decide +kernel) rfl ?_
      exact ms_iret (by decide +kernel)
    · refine ms_iload_n (k := 3) (p' := 18) (by decide +kernel) rfl rfl ?_
      refine ms_stat_i (idx := 343) (cy := yM_isTwo) (n := 1) (as := [.inl x3]) (rest := []) (p' := 21) (by decide +kernel) rfl rfl rfl rfl rfl (fun f3 v4 => ?_)
      refine ms_if_ne (off := 5) (t := 26) (p' := 24) (by decide +kernel) rfl (fun hc => ?_) (fun hc => ?_)
      · refine ms_iload_n (k := 2) (p' := 27) (by decide +kernel) rfl rfl ?_
        refine ms_aload_n (k := 0) (p' := 28) (by decide +kernel) rfl rfl ?_
        refine ms_getr (idx := 32) (ci := 9) (k := 12) (q := 1403) (p' := 31) (by decide +kernel) rfl (k_223 hw) (r_223_12 hw) (by decide) ?_
        refine ms_iload_n (k := 1) (p' := 32) (by decide +kernel) rfl rfl ?_
        refine ms_iald (p' := 33) (by decide +kernel) rfl (k_230 hw) (fun hj5 => ?_)
        refine ms_icmp_lt (off := 6) (t := 39) (p' := 36) (by decide +kernel) rfl (fun hc => ?_) (fun hc => ?_)
        · refine ms_iload_n (k := 3) (p' := 40) (by decide +kernel) rfl rfl ?_
          refine ms_if_ne (off := 16) (t := 56) (p' := 43) (by decide +kernel) rfl (fun hc => ?_) (fun hc => ?_)
          · refine ms_aload_n (k := 0) (p' := 57) (by decide +kernel) rfl rfl ?_
            refine ms_getr (idx := 38) (ci := 9) (k := 14) (q := 1405) (p' := 60) (by decide +kernel) rfl (k_223 hw) (r_223_14 hw) (by decide) ?_
            refine ms_iconst (n := 4) (v := 4) (p' := 61) (by decide +kernel) rfl ?_
            refine ms_iload_n (k := 1) (p' := 62) (by decide +kernel) rfl rfl ?_
            refine ms_imul (p' := 63) (by decide +kernel) rfl ?_
            refine ms_iload_n (k := 2) (p' := 64) (by decide +kernel) rfl rfl ?_
            refine ms_iadd (p' := 65) (by decide +kernel) rfl ?_
            refine ms_iald (p' := 66) (by decide +kernel) rfl (k_232 hw) (fun hj6 => ?_)
            exact ms_iret (by decide +kernel)
          · refine ms_aload_n (k := 0) (p' := 44) (by decide +kernel) rfl rfl ?_
            refine ms_getr (idx := 35) (ci := 9) (k := 13) (q := 1404) (p' := 47) (by decide +kernel) rfl (k_223 hw) (r_223_13 hw) (by decide) ?_
            refine ms_iconst (n := 4) (v := 4) (p' := 48) (by decide +kernel) rfl ?_
            refine ms_iload_n (k := 1) (p' := 49) (by decide +kernel) rfl rfl ?_
            refine ms_imul (p' := 50) (by decide +kernel) rfl ?_
            refine ms_iload_n (k := 2) (p' := 51) (by decide +kernel) rfl rfl ?_
            refine ms_iadd (p' := 52) (by decide +kernel) rfl ?_
            refine ms_iald (p' := 53) (by decide +kernel) rfl (k_231 hw) (fun hj7 => ?_)
            refine ms_goto (off := 13) (p' := 66) (by decide +kernel) ?_
            exact ms_iret (by decide +kernel)
        · refine ms_bipush (n := (-2)) (v := (-2)) (p' := 38) (by decide +kernel) rfl ?_
          exact ms_iret (by decide +kernel)
      · refine ms_iconst (n := (-1)) (v := (-1)) (p' := 25) (by decide +kernel) rfl ?_
        exact ms_iret (by decide +kernel)
theorem c_M_isClock {sw : Bool} {w : mj_W} (hw : wk sw w) (f : mj_F) (x1 : Int)  : mj_call yM_isClock w f [.inr (.inl 223), .inl x1] = mj_bi (mj_call yM_isIn w f [.inl x1, .inl 0, .inl (mj_w ((f 223 2) - 1))]) (fun f1 v2 => mj_gd (v2 = 0 ∨ v2 = 1) (some (w, f1, some (.inl v2)))) := by
  show mj_run yM_isClock w f 0 [.inr (.inl 223), .inl x1] [] = _
  refine ms_iload_n (k := 1) (p' := 1) (by decide +kernel) rfl rfl ?_
  refine ms_iconst (n := 0) (v := 0) (p' := 2) (by decide +kernel) rfl ?_
  refine ms_aload_n (k := 0) (p' := 3) (by decide +kernel) rfl rfl ?_
  refine ms_geti (idx := 242) (ci := 9) (k := 2) (q := 1393) (p' := 6) (by decide +kernel) rfl (k_223 hw) ?_
  refine ms_iconst (n := 1) (v := 1) (p' := 7) (by decide +kernel) rfl ?_
  refine ms_isub (p' := 8) (by decide +kernel) rfl ?_
  refine ms_stat_i (idx := 158) (cy := yM_isIn) (n := 3) (as := [.inl x1, .inl 0, .inl (mj_w ((f 223 2) - 1))]) (rest := []) (p' := 11) (by decide +kernel) rfl rfl rfl rfl rfl (fun f1 v2 => ?_)
  exact ms_zret (by decide +kernel)
theorem c_M_great {sw : Bool} {w : mj_W} (hw : wk sw w) (f : mj_F) (x1 : Int)  : mj_call yM_great w f [.inr (.inl 223), .inl x1] = mj_bi (mj_call yM_isClock w (mj_u f 223 0 0) [.inr (.inl 223), .inl x1]) (fun f1 v2 => if v2 = 0 then some (w, f1, some (.inl (-1))) else mj_gd (0 ≤ (mj_w (x1 + 1)) ∧ (mj_w (x1 + 1)) < ((5 : Nat) : Int)) (some (w, f1, some (.inl (f1 233 (mj_w (x1 + 1)).toNat))))) := by
  show mj_run yM_great w f 0 [.inr (.inl 223), .inl x1] [] = _
  refine ms_aload_n (k := 0) (p' := 1) (by decide +kernel) rfl rfl ?_
  refine ms_iconst (n := 0) (v := 0) (p' := 2) (by decide +kernel) rfl ?_
  refine ms_puti (idx := 1) (ci := 9) (k := 0) (q := 1391) (p' := 5) (by decide +kernel) rfl (k_223 hw) ?_
  refine ms_aload_n (k := 0) (p' := 6) (by decide +kernel) rfl rfl ?_
  refine ms_iload_n (k := 1) (p' := 7) (by decide +kernel) rfl rfl ?_
  refine ms_virt_i (idx := 349) (cy := yM_isClock) (n := 1) (a := 223) (as := [.inl x1]) (rest := []) (p' := 10) (by decide +kernel) rfl rfl rfl rfl (k_223 hw) rfl (fun f1 v2 => ?_)
  refine ms_if_eq (off := 14) (t := 24) (p' := 13) (by decide +kernel) rfl (fun hc => ?_) (fun hc => ?_)
  · refine ms_iconst (n := (-1)) (v := (-1)) (p' := 25) (by decide +kernel) rfl ?_
    exact ms_iret (by decide +kernel)
  · refine ms_aload_n (k := 0) (p' := 14) (by decide +kernel) rfl rfl ?_
    refine ms_getr (idx := 41) (ci := 9) (k := 15) (q := 1406) (p' := 17) (by decide +kernel) rfl (k_223 hw) (r_223_15 hw) (by decide) ?_
    refine ms_iload_n (k := 1) (p' := 18) (by decide +kernel) rfl rfl ?_
    refine ms_iconst (n := 1) (v := 1) (p' := 19) (by decide +kernel) rfl ?_
    refine ms_iadd (p' := 20) (by decide +kernel) rfl ?_
    refine ms_iald (p' := 21) (by decide +kernel) rfl (k_233 hw) (fun hj3 => ?_)
    refine ms_goto (off := 4) (p' := 25) (by decide +kernel) ?_
    exact ms_iret (by decide +kernel)
theorem c_M_isTable {sw : Bool} {w : mj_W} (hw : wk sw w) (f : mj_F) (x0 : Int)  : mj_call yM_isTable w f [.inl x0] = mj_bi (mj_call yM_isIn w f [.inl x0, .inl 0, .inl 3]) (fun f1 v2 => mj_gd (v2 = 0 ∨ v2 = 1) (some (w, f1, some (.inl v2)))) := by
  show mj_run yM_isTable w f 0 [.inl x0] [] = _
  refine ms_iload_n (k := 0) (p' := 1) (by decide +kernel) rfl rfl ?_
  refine ms_iconst (n := 0) (v := 0) (p' := 2) (by decide +kernel) rfl ?_
  refine ms_iconst (n := 3) (v := 3) (p' := 3) (by decide +kernel) rfl ?_
  refine ms_stat_i (idx := 158) (cy := yM_isIn) (n := 3) (as := [.inl x0, .inl 0, .inl 3]) (rest := []) (p' := 6) (by decide +kernel) rfl rfl rfl rfl rfl (fun f1 v2 => ?_)
  exact ms_zret (by decide +kernel)
theorem c_M_wide {sw : Bool} {w : mj_W} (hw : wk sw w) (f : mj_F)   : mj_call yM_wide w f [.inr (.inl 223)] = mj_run yM_wide w (mj_u f 223 53 0) 7 [.inr (.inl 223), .inl 0, .inr (.inr (.inr 0))] [] := by
  show mj_run yM_wide w f 0 [.inr (.inl 223), .inr (.inr (.inr 0)), .inr (.inr (.inr 0))] [] = _
  refine ms_aload_n (k := 0) (p' := 1) (by decide +kernel) rfl rfl ?_
  refine ms_iconst (n := 0) (v := 0) (p' := 2) (by decide +kernel) rfl ?_
  refine Eq.trans (ms_putz (idx := 289) (ci := 9) (k := 53) (q := 1444) (p' := 5) (by decide +kernel) rfl (k_223 hw) (fun _ => ?_)) (mj_gd_pos (by decide) _)
  refine ms_iconst (n := 0) (v := 0) (p' := 6) (by decide +kernel) rfl ?_
  refine ms_istore_n (k := 1) (ls' := [.inr (.inl 223), .inl 0, .inr (.inr (.inr 0))]) (p' := 7) (by decide +kernel) rfl (Nat.le_of_ble_eq_true rfl) rfl ?_
  rfl
theorem l_M_wide_7 {sw : Bool} {w : mj_W} (hw : wk sw w) (f : mj_F) (x1 : Int) (u2 : mj_V)  : mj_run yM_wide w f 7 [.inr (.inl 223), .inl x1, u2] [] = if (f 223 52) ≤ x1 then some (w, f, none) else mj_run yM_wide w f 17 [.inr (.inl 223), .inl x1, .inl 0] [] := by
  refine ms_iload_n (k := 1) (p' := 8) (by decide +kernel) rfl rfl ?_
  refine ms_aload_n (k := 0) (p' := 9) (by decide +kernel) rfl rfl ?_
  refine ms_geti (idx := 280) (ci := 9) (k := 52) (q := 1443) (p' := 12) (by decide +kernel) rfl (k_223 hw) ?_
  refine ms_icmp_ge (off := 47) (t := 59) (p' := 15) (by decide +kernel) rfl (fun hc => ?_) (fun hc => ?_)
  · exact ms_vret (by decide +kernel)
  · refine ms_iconst (n := 0) (v := 0) (p' := 16) (by decide +kernel) rfl ?_
    refine ms_istore_n (k := 2) (ls' := [.inr (.inl 223), .inl x1, .inl 0]) (p' := 17) (by decide +kernel) rfl (Nat.le_of_ble_eq_true rfl) rfl ?_
    rfl
theorem l_M_wide_17 {sw : Bool} {w : mj_W} (hw : wk sw w) (f : mj_F) (x1 : Int) (x2 : Int)  : mj_run yM_wide w f 17 [.inr (.inl 223), .inl x1, .inl x2] [] = if (f 223 52) ≤ x2 then mj_run yM_wide w f 7 [.inr (.inl 223), .inl (mj_w (x1 + 1)), .inl x2] [] else if x1 = 0 then mj_bu (mj_call yM_put w f [.inr (.inl 223), .inl x1, .inl x2, .inl 1]) (fun f1 => mj_run yM_wide w f1 17 [.inr (.inl 223), .inl x1, .inl (mj_w (x2 + 1))] []) else if ¬ x1 = x2 then mj_bu (mj_call yM_put w f [.inr (.inl 223), .inl x1, .inl x2, .inl 1000000]) (fun f2 => mj_run yM_wide w f2 17 [.inr (.inl 223), .inl x1, .inl (mj_w (x2 + 1))] []) else mj_bu (mj_call yM_put w f [.inr (.inl 223), .inl x1, .inl x2, .inl 1]) (fun f3 => mj_run yM_wide w f3 17 [.inr (.inl 223), .inl x1, .inl (mj_w (x2 + 1))] []) := by
  refine ms_iload_n (k := 2) (p' := 18) (by decide +kernel) rfl rfl ?_
  refine ms_aload_n (k := 0) (p' := 19) (by decide +kernel) rfl rfl ?_
  refine ms_geti (idx := 280) (ci := 9) (k := 52) (q := 1443) (p' := 22) (by decide +kernel) rfl (k_223 hw) ?_
  refine ms_icmp_ge (off := 31) (t := 53) (p' := 25) (by decide +kernel) rfl (fun hc => ?_) (fun hc => ?_)
  · refine ms_iinc (k := 1) (n := 1) (ls' := [.inr (.inl 223), .inl (mj_w (x1 + 1)), .inl x2]) (p' := 56) (by decide +kernel) rfl rfl rfl ?_
    refine ms_goto (off := (-49)) (p' := 7) (by decide +kernel) ?_
    rfl
  · refine ms_aload_n (k := 0) (p' := 26) (by decide +kernel) rfl rfl ?_
    refine ms_iload_n (k := 1) (p' := 27) (by decide +kernel) rfl rfl ?_
    refine ms_iload_n (k := 2) (p' := 28) (by decide +kernel) rfl rfl ?_
    refine ms_iload_n (k := 1) (p' := 29) (by decide +kernel) rfl rfl ?_
    refine ms_if_eq (off := 8) (t := 37) (p' := 32) (by decide +kernel) rfl (fun hc => ?_) (fun hc => ?_)
    · refine ms_iconst (n := 1) (v := 1) (p' := 38) (by decide +kernel) rfl ?_
      refine ms_goto (off := 6) (p' := 44) (by decide +kernel) ?_
      refine ms_virt_u (idx := 276) (cy := yM_put) (n := 3) (a := 223) (as := [.inl x1, .inl x2, .inl 1]) (rest := []) (p' := 47) (by decide +kernel) rfl rfl rfl rfl (k_223 hw) rfl (fun f1 => ?_)
      refine ms_iinc (k := 2) (n := 1) (ls' := [.inr (.inl 223), .inl x1, .inl (mj_w (x2 + 1))]) (p' := 50) (by decide +kernel) rfl rfl rfl ?_
      refine ms_goto (off := (-33)) (p' := 17) (by decide +kernel) ?_
      rfl
    · refine ms_iload_n (k := 1) (p' := 33) (by decide +kernel) rfl rfl ?_
      refine ms_iload_n (k := 2) (p' := 34) (by decide +kernel) rfl rfl ?_
      refine ms_icmp_ne (off := 7) (t := 41) (p' := 37) (by decide +kernel) rfl (fun hc => ?_) (fun hc => ?_)
      · refine ms_ldc_w (idx := 271) (v := 1000000) (p' := 44) (by decide +kernel) rfl ?_
        refine ms_virt_u (idx := 276) (cy := yM_put) (n := 3) (a := 223) (as := [.inl x1, .inl x2, .inl 1000000]) (rest := []) (p' := 47) (by decide +kernel) rfl rfl rfl rfl (k_223 hw) rfl (fun f2 => ?_)
        refine ms_iinc (k := 2) (n := 1) (ls' := [.inr (.inl 223), .inl x1, .inl (mj_w (x2 + 1))]) (p' := 50) (by decide +kernel) rfl rfl rfl ?_
        refine ms_goto (off := (-33)) (p' := 17) (by decide +kernel) ?_
        rfl
      · refine ms_iconst (n := 1) (v := 1) (p' := 38) (by decide +kernel) rfl ?_
        refine ms_goto (off := 6) (p' := 44) (by decide +kernel) ?_
        refine ms_virt_u (idx := 276) (cy := yM_put) (n := 3) (a := 223) (as := [.inl x1, .inl x2, .inl 1]) (rest := []) (p' := 47) (by decide +kernel) rfl rfl rfl rfl (k_223 hw) rfl (fun f3 => ?_)
        refine ms_iinc (k := 2) (n := 1) (ls' := [.inr (.inl 223), .inl x1, .inl (mj_w (x2 + 1))]) (p' := 50) (by decide +kernel) rfl rfl rfl ?_
        refine ms_goto (off := (-33)) (p' := 17) (by decide +kernel) ?_
        rfl
theorem c_M_isFar {sw : Bool} {w : mj_W} (hw : wk sw w) (f : mj_F)   : mj_call yM_isFar w f [.inr (.inl 223)] = mj_run yM_isFar w f 2 [.inr (.inl 223), .inl 0, .inr (.inr (.inr 0))] [] := by
  show mj_run yM_isFar w f 0 [.inr (.inl 223), .inr (.inr (.inr 0)), .inr (.inr (.inr 0))] [] = _
  refine ms_iconst (n := 0) (v := 0) (p' := 1) (by decide +kernel) rfl ?_
  refine ms_istore_n (k := 1) (ls' := [.inr (.inl 223), .inl 0, .inr (.inr (.inr 0))]) (p' := 2) (by decide +kernel) rfl (Nat.le_of_ble_eq_true rfl) rfl ?_
  rfl
theorem l_M_isFar_2 {sw : Bool} {w : mj_W} (hw : wk sw w) (f : mj_F) (x1 : Int) (u2 : mj_V)  : mj_run yM_isFar w f 2 [.inr (.inl 223), .inl x1, u2] [] = if (f 223 52) ≤ x1 then some (w, f, some (.inl 0)) else if ¬ (f 223 53) = 0 then some (w, f, some (.inl 0)) else mj_run yM_isFar w f 19 [.inr (.inl 223), .inl x1, .inl 0] [] := by
  refine ms_iload_n (k := 1) (p' := 3) (by decide +kernel) rfl rfl ?_
  refine ms_aload_n (k := 0) (p' := 4) (by decide +kernel) rfl rfl ?_
  refine ms_geti (idx := 280) (ci := 9) (k := 52) (q := 1443) (p' := 7) (by decide +kernel) rfl (k_223 hw) ?_
  refine ms_icmp_ge (off := 67) (t := 74) (p' := 10) (by decide +kernel) rfl (fun hc => ?_) (fun hc => ?_)
  · refine ms_iconst (n := 0) (v := 0) (p' := 75) (by decide +kernel) rfl ?_
    exact (ms_zret (by decide +kernel)).trans (mj_gd_pos (by decide) _)
  · refine ms_aload_n (k := 0) (p' := 11) (by decide +kernel) rfl rfl ?_
    refine ms_geti (idx := 289) (ci := 9) (k := 53) (q := 1444) (p' := 14) (by decide +kernel) rfl (k_223 hw) ?_
    refine ms_if_ne (off := 60) (t := 74) (p' := 17) (by decide +kernel) rfl (fun hc => ?_) (fun hc => ?_)
    · refine ms_iconst (n := 0) (v := 0) (p' := 75) (by decide +kernel) rfl ?_
      exact (ms_zret (by decide +kernel)).trans (mj_gd_pos (by decide) _)
    · refine ms_iconst (n := 0) (v := 0) (p' := 18) (by decide +kernel) rfl ?_
      refine ms_istore_n (k := 2) (ls' := [.inr (.inl 223), .inl x1, .inl 0]) (p' := 19) (by decide +kernel) rfl (Nat.le_of_ble_eq_true rfl) rfl ?_
      rfl
theorem l_M_isFar_19 {sw : Bool} {w : mj_W} (hw : wk sw w) (f : mj_F) (x1 : Int) (x2 : Int)  : mj_run yM_isFar w f 19 [.inr (.inl 223), .inl x1, .inl x2] [] = if (f 223 52) ≤ x2 then mj_run yM_isFar w f 2 [.inr (.inl 223), .inl (mj_w (x1 + 1)), .inl x2] [] else mj_bi (mj_call yM_get w f [.inr (.inl 223), .inl x1, .inl x2]) (fun f1 v2 => if 1000000 ≤ v2 then mj_run yM_isFar w f1 19 [.inr (.inl 223), .inl x1, .inl (mj_w (x2 + 1))] [] else mj_bi (mj_call yM_get w f1 [.inr (.inl 223), .inl x1, .inl x2]) (fun f3 v4 => mj_bi (mj_call yM_numberOf w f3 [.inl v4]) (fun f5 v6 => mj_bi (mj_call yM_isIn w f5 [.inl v6, .inl (-400), .inl 400]) (fun f7 v8 => if ¬ v8 = 0 then mj_run yM_isFar w f7 19 [.inr (.inl 223), .inl x1, .inl (mj_w (x2 + 1))] [] else some (w, f7, some (.inl 1)))))) := by
  refine ms_iload_n (k := 2) (p' := 20) (by decide +kernel) rfl rfl ?_
  refine ms_aload_n (k := 0) (p' := 21) (by decide +kernel) rfl rfl ?_
  refine ms_geti (idx := 280) (ci := 9) (k := 52) (q := 1443) (p' := 24) (by decide +kernel) rfl (k_223 hw) ?_
  refine ms_icmp_ge (off := 44) (t := 68) (p' := 27) (by decide +kernel) rfl (fun hc => ?_) (fun hc => ?_)
  · refine ms_iinc (k := 1) (n := 1) (ls' := [.inr (.inl 223), .inl (mj_w (x1 + 1)), .inl x2]) (p' := 71) (by decide +kernel) rfl rfl rfl ?_
    refine ms_goto (off := (-69)) (p' := 2) (by decide +kernel) ?_
    rfl
  · refine ms_aload_n (k := 0) (p' := 28) (by decide +kernel) rfl rfl ?_
    refine ms_iload_n (k := 1) (p' := 29) (by decide +kernel) rfl rfl ?_
    refine ms_iload_n (k := 2) (p' := 30) (by decide +kernel) rfl rfl ?_
    refine ms_virt_i (idx := 272) (cy := yM_get) (n := 2) (a := 223) (as := [.inl x1, .inl x2]) (rest := []) (p' := 33) (by decide +kernel) rfl rfl rfl rfl (k_223 hw) rfl (fun f1 v2 => ?_)
    refine ms_ldc_w (idx := 271) (v := 1000000) (p' := 36) (by decide +kernel) rfl ?_
    refine ms_icmp_ge (off := 26) (t := 62) (p' := 39) (by decide +kernel) rfl (fun hc => ?_) (fun hc => ?_)
    · refine ms_iinc (k := 2) (n := 1) (ls' := [.inr (.inl 223), .inl x1, .inl (mj_w (x2 + 1))]) (p' := 65) (by decide +kernel) rfl rfl rfl ?_
      refine ms_goto (off := (-46)) (p' := 19) (by decide +kernel) ?_
      rfl
    · refine ms_aload_n (k := 0) (p' := 40) (by decide +kernel) rfl rfl ?_
      refine ms_iload_n (k := 1) (p' := 41) (by decide +kernel) rfl rfl ?_
      refine ms_iload_n (k := 2) (p' := 42) (by decide +kernel) rfl rfl ?_
      refine ms_virt_i (idx := 272) (cy := yM_get) (n := 2) (a := 223) (as := [.inl x1, .inl x2]) (rest := []) (p' := 45) (by decide +kernel) rfl rfl rfl rfl (k_223 hw) rfl (fun f3 v4 => ?_)
      refine ms_stat_i (idx := 318) (cy := yM_numberOf) (n := 1) (as := [.inl v4]) (rest := []) (p' := 48) (by decide +kernel) rfl rfl rfl rfl rfl (fun f5 v6 => ?_)
      refine ms_sipush (n := (-400)) (v := (-400)) (p' := 51) (by decide +kernel) rfl ?_
      refine ms_sipush (n := 400) (v := 400) (p' := 54) (by decide +kernel) rfl ?_
      refine ms_stat_i (idx := 158) (cy := yM_isIn) (n := 3) (as := [.inl v6, .inl (-400), .inl 400]) (rest := []) (p' := 57) (by decide +kernel) rfl rfl rfl rfl rfl (fun f7 v8 => ?_)
      refine ms_if_ne (off := 5) (t := 62) (p' := 60) (by decide +kernel) rfl (fun hc => ?_) (fun hc => ?_)
      · refine ms_iinc (k := 2) (n := 1) (ls' := [.inr (.inl 223), .inl x1, .inl (mj_w (x2 + 1))]) (p' := 65) (by decide +kernel) rfl rfl rfl ?_
        refine ms_goto (off := (-46)) (p' := 19) (by decide +kernel) ?_
        rfl
      · refine ms_iconst (n := 1) (v := 1) (p' := 61) (by decide +kernel) rfl ?_
        exact (ms_zret (by decide +kernel)).trans (mj_gd_pos (by decide) _)
theorem c_M_keeps {sw : Bool} {w : mj_W} (hw : wk sw w) (f : mj_F)   : mj_call yM_keeps w f [.inr (.inl 223)] = if ¬ (f 223 18) = 16 then mj_run yM_keeps w f 52 [.inr (.inl 223), .inl 0] [] else mj_run yM_keeps w f 12 [.inr (.inl 223), .inl 125] [] := by
  show mj_run yM_keeps w f 0 [.inr (.inl 223), .inr (.inr (.inr 0))] [] = _
  refine ms_aload_n (k := 0) (p' := 1) (by decide +kernel) rfl rfl ?_
  refine ms_geti (idx := 261) (ci := 9) (k := 18) (q := 1409) (p' := 4) (by decide +kernel) rfl (k_223 hw) ?_
  refine ms_bipush (n := 16) (v := 16) (p' := 6) (by decide +kernel) rfl ?_
  refine ms_icmp_ne (off := 44) (t := 50) (p' := 9) (by decide +kernel) rfl (fun hc => ?_) (fun hc => ?_)
  · refine ms_iconst (n := 0) (v := 0) (p' := 51) (by decide +kernel) rfl ?_
    refine ms_istore_n (k := 1) (ls' := [.inr (.inl 223), .inl 0]) (p' := 52) (by decide +kernel) rfl (Nat.le_of_ble_eq_true rfl) rfl ?_
    rfl
  · refine ms_bipush (n := 125) (v := 125) (p' := 11) (by decide +kernel) rfl ?_
    refine ms_istore_n (k := 1) (ls' := [.inr (.inl 223), .inl 125]) (p' := 12) (by decide +kernel) rfl (Nat.le_of_ble_eq_true rfl) rfl ?_
    rfl
theorem l_M_keeps_12 {sw : Bool} {w : mj_W} (hw : wk sw w) (f : mj_F) (x1 : Int)  : mj_run yM_keeps w f 12 [.inr (.inl 223), .inl x1] [] = if 2000 ≤ x1 then mj_run yM_keeps w (mj_u f 223 18 (mj_w ((f 223 18) - 1))) 52 [.inr (.inl 223), .inl 0] [] else mj_gd (0 ≤ x1 ∧ x1 < ((2000 : Nat) : Int)) (mj_gd (0 ≤ (mj_w (x1 - 125)) ∧ (mj_w (x1 - 125)) < ((2000 : Nat) : Int)) (mj_run yM_keeps w (mj_u f 235 (mj_w (x1 - 125)).toNat (f 235 x1.toNat)) 12 [.inr (.inl 223), .inl (mj_w (x1 + 1))] [])) := by
  refine ms_iload_n (k := 1) (p' := 13) (by decide +kernel) rfl rfl ?_
  refine ms_sipush (n := 2000) (v := 2000) (p' := 16) (by decide +kernel) rfl ?_
  refine ms_icmp_ge (off := 24) (t := 40) (p' := 19) (by decide +kernel) rfl (fun hc => ?_) (fun hc => ?_)
  · refine ms_aload_n (k := 0) (p' := 41) (by decide +kernel) rfl rfl ?_
    refine ms_dup_a (p' := 42) (by decide +kernel) rfl ?_
    refine ms_geti (idx := 261) (ci := 9) (k := 18) (q := 1409) (p' := 45) (by decide +kernel) rfl (k_223 hw) ?_
    refine ms_iconst (n := 1) (v := 1) (p' := 46) (by decide +kernel) rfl ?_
    refine ms_isub (p' := 47) (by decide +kernel) rfl ?_
    refine ms_puti (idx := 261) (ci := 9) (k := 18) (q := 1409) (p' := 50) (by decide +kernel) rfl (k_223 hw) ?_
    refine ms_iconst (n := 0) (v := 0) (p' := 51) (by decide +kernel) rfl ?_
    refine ms_istore_n (k := 1) (ls' := [.inr (.inl 223), .inl 0]) (p' := 52) (by decide +kernel) rfl (Nat.le_of_ble_eq_true rfl) rfl ?_
    rfl
  · refine ms_aload_n (k := 0) (p' := 20) (by decide +kernel) rfl rfl ?_
    refine ms_getr (idx := 47) (ci := 9) (k := 17) (q := 1408) (p' := 23) (by decide +kernel) rfl (k_223 hw) (r_223_17 hw) (by decide) ?_
    refine ms_iload_n (k := 1) (p' := 24) (by decide +kernel) rfl rfl ?_
    refine ms_bipush (n := 125) (v := 125) (p' := 26) (by decide +kernel) rfl ?_
    refine ms_isub (p' := 27) (by decide +kernel) rfl ?_
    refine ms_aload_n (k := 0) (p' := 28) (by decide +kernel) rfl rfl ?_
    refine ms_getr (idx := 47) (ci := 9) (k := 17) (q := 1408) (p' := 31) (by decide +kernel) rfl (k_223 hw) (r_223_17 hw) (by decide) ?_
    refine ms_iload_n (k := 1) (p' := 32) (by decide +kernel) rfl rfl ?_
    refine ms_iald (p' := 33) (by decide +kernel) rfl (k_235 hw) (fun hj1 => ?_)
    refine ms_iast (p' := 34) (by decide +kernel) rfl (k_235 hw) (fun hj2 => ?_)
    refine ms_iinc (k := 1) (n := 1) (ls' := [.inr (.inl 223), .inl (mj_w (x1 + 1))]) (p' := 37) (by decide +kernel) rfl rfl rfl ?_
    refine ms_goto (off := (-25)) (p' := 12) (by decide +kernel) ?_
    rfl
theorem l_M_keeps_52 {sw : Bool} {w : mj_W} (hw : wk sw w) (f : mj_F) (x1 : Int)  : mj_run yM_keeps w f 52 [.inr (.inl 223), .inl x1] [] = if 125 ≤ x1 then some (w, (mj_u f 223 18 (mj_w ((f 223 18) + 1))), none) else mj_gd (0 ≤ x1 ∧ x1 < ((125 : Nat) : Int)) (mj_gd (0 ≤ (mj_w ((mj_w (125 * (f 223 18))) + x1)) ∧ (mj_w ((mj_w (125 * (f 223 18))) + x1)) < ((2000 : Nat) : Int)) (mj_run yM_keeps w (mj_u f 235 (mj_w ((mj_w (125 * (f 223 18))) + x1)).toNat (f 234 x1.toNat)) 52 [.inr (.inl 223), .inl (mj_w (x1 + 1))] [])) := by
  refine ms_iload_n (k := 1) (p' := 53) (by decide +kernel) rfl rfl ?_
  refine ms_bipush (n := 125) (v := 125) (p' := 55) (by decide +kernel) rfl ?_
  refine ms_icmp_ge (off := 29) (t := 84) (p' := 58) (by decide +kernel) rfl (fun hc => ?_) (fun hc => ?_)
  · refine ms_aload_n (k := 0) (p' := 85) (by decide +kernel) rfl rfl ?_
    refine ms_dup_a (p' := 86) (by decide +kernel) rfl ?_
    refine ms_geti (idx := 261) (ci := 9) (k := 18) (q := 1409) (p' := 89) (by decide +kernel) rfl (k_223 hw) ?_
    refine ms_iconst (n := 1) (v := 1) (p' := 90) (by decide +kernel) rfl ?_
    refine ms_iadd (p' := 91) (by decide +kernel) rfl ?_
    refine ms_puti (idx := 261) (ci := 9) (k := 18) (q := 1409) (p' := 94) (by decide +kernel) rfl (k_223 hw) ?_
    exact ms_vret (by decide +kernel)
  · refine ms_aload_n (k := 0) (p' := 59) (by decide +kernel) rfl rfl ?_
    refine ms_getr (idx := 47) (ci := 9) (k := 17) (q := 1408) (p' := 62) (by decide +kernel) rfl (k_223 hw) (r_223_17 hw) (by decide) ?_
    refine ms_bipush (n := 125) (v := 125) (p' := 64) (by decide +kernel) rfl ?_
    refine ms_aload_n (k := 0) (p' := 65) (by decide +kernel) rfl rfl ?_
    refine ms_geti (idx := 261) (ci := 9) (k := 18) (q := 1409) (p' := 68) (by decide +kernel) rfl (k_223 hw) ?_
    refine ms_imul (p' := 69) (by decide +kernel) rfl ?_
    refine ms_iload_n (k := 1) (p' := 70) (by decide +kernel) rfl rfl ?_
    refine ms_iadd (p' := 71) (by decide +kernel) rfl ?_
    refine ms_aload_n (k := 0) (p' := 72) (by decide +kernel) rfl rfl ?_
    refine ms_getr (idx := 44) (ci := 9) (k := 16) (q := 1407) (p' := 75) (by decide +kernel) rfl (k_223 hw) (r_223_16 hw) (by decide) ?_
    refine ms_iload_n (k := 1) (p' := 76) (by decide +kernel) rfl rfl ?_
    refine ms_iald (p' := 77) (by decide +kernel) rfl (k_234 hw) (fun hj3 => ?_)
    refine ms_iast (p' := 78) (by decide +kernel) rfl (k_235 hw) (fun hj4 => ?_)
    refine ms_iinc (k := 1) (n := 1) (ls' := [.inr (.inl 223), .inl (mj_w (x1 + 1))]) (p' := 81) (by decide +kernel) rfl rfl rfl ?_
    refine ms_goto (off := (-29)) (p' := 52) (by decide +kernel) ?_
    rfl
theorem c_M_becomesTable {sw : Bool} {w : mj_W} (hw : wk sw w) (f : mj_F) (x1 : Int)  : mj_call yM_becomesTable w f [.inr (.inl 223), .inl x1] = mj_bi (mj_call yM_isFar w f [.inr (.inl 223)]) (fun f1 v2 => if v2 = 0 then mj_bu (mj_call yM_keeps w f1 [.inr (.inl 223)]) (fun f3 => mj_bu (mj_call yM_stores w f3 [.inr (.inl 223), .inl x1]) (fun f4 => if (f4 223 53) = 0 then some (w, f4, some (.inl 1)) else some (w, f4, some (.inl 0)))) else some (w, f1, some (.inl (-2)))) := by
  show mj_run yM_becomesTable w f 0 [.inr (.inl 223), .inl x1] [] = _
  refine ms_aload_n (k := 0) (p' := 1) (by decide +kernel) rfl rfl ?_
  refine ms_virt_i (idx := 321) (cy := yM_isFar) (n := 0) (a := 223) (as := []) (rest := []) (p' := 4) (by decide +kernel) rfl rfl rfl rfl (k_223 hw) rfl (fun f1 v2 => ?_)
  refine ms_if_eq (off := 6) (t := 10) (p' := 7) (by decide +kernel) rfl (fun hc => ?_) (fun hc => ?_)
  · refine ms_aload_n (k := 0) (p' := 11) (by decide +kernel) rfl rfl ?_
    refine ms_virt_u (idx := 324) (cy := yM_keeps) (n := 0) (a := 223) (as := []) (rest := []) (p' := 14) (by decide +kernel) rfl rfl rfl rfl (k_223 hw) rfl (fun f3 => ?_)
    refine ms_aload_n (k := 0) (p' := 15) (by decide +kernel) rfl rfl ?_
    refine ms_iload_n (k := 1) (p' := 16) (by decide +kernel) rfl rfl ?_
    refine ms_virt_u (idx := 129) (cy := yM_stores) (n := 1) (a := 223) (as := [.inl x1]) (rest := []) (p' := 19) (by decide +kernel) rfl rfl rfl rfl (k_223 hw) rfl (fun f4 => ?_)
    refine ms_aload_n (k := 0) (p' := 20) (by decide +kernel) rfl rfl ?_
    refine ms_geti (idx := 289) (ci := 9) (k := 53) (q := 1444) (p' := 23) (by decide +kernel) rfl (k_223 hw) ?_
    refine ms_if_eq (off := 7) (t := 30) (p' := 26) (by decide +kernel) rfl (fun hc => ?_) (fun hc => ?_)
    · refine ms_iconst (n := 1) (v := 1) (p' := 31) (by decide +kernel) rfl ?_
      exact ms_iret (by decide +kernel)
    · refine ms_iconst (n := 0) (v := 0) (p' := 27) (by decide +kernel) rfl ?_
      refine ms_goto (off := 4) (p' := 31) (by decide +kernel) ?_
      exact ms_iret (by decide +kernel)
  · refine ms_bipush (n := (-2)) (v := (-2)) (p' := 9) (by decide +kernel) rfl ?_
    exact ms_iret (by decide +kernel)
theorem c_M_lay {sw : Bool} {w : mj_W} (hw : wk sw w) (f : mj_F) (x1 : Int) (x2 : Int)  : mj_call yM_lay w f [.inr (.inl 223), .inl x1, .inl x2] = mj_bi (mj_call yM_isTable w (mj_u f 223 0 0) [.inl x1]) (fun f1 v2 => if v2 = 0 then some (w, f1, some (.inl 0)) else mj_bi (mj_call yM_isIn w f1 [.inl x2, .inl 0, .inl 2]) (fun f3 v4 => if ¬ v4 = 0 then mj_bu (mj_call yM_nought w f3 [.inr (.inl 223)]) (fun f5 => if ¬ x2 = 1 then if ¬ x2 = 2 then mj_bi (mj_call yM_becomesTable w (mj_u f5 223 53 0) [.inr (.inl 223), .inl x1]) (fun f6 v7 => some (w, f6, some (.inl 1))) else mj_bi (mj_call yM_becomesTable w (mj_u f5 223 53 1) [.inr (.inl 223), .inl x1]) (fun f8 v9 => some (w, f8, some (.inl 1))) else mj_bu (mj_call yM_wide w f5 [.inr (.inl 223)]) (fun f10 => if ¬ x2 = 2 then mj_bi (mj_call yM_becomesTable w (mj_u f10 223 53 0) [.inr (.inl 223), .inl x1]) (fun f11 v12 => some (w, f11, some (.inl 1))) else mj_bi (mj_call yM_becomesTable w (mj_u f10 223 53 1) [.inr (.inl 223), .inl x1]) (fun f13 v14 => some (w, f13, some (.inl 1))))) else some (w, f3, some (.inl 0)))) := by
  show mj_run yM_lay w f 0 [.inr (.inl 223), .inl x1, .inl x2] [] = _
  refine ms_aload_n (k := 0) (p' := 1) (by decide +kernel) rfl rfl ?_
  refine ms_iconst (n := 0) (v := 0) (p' := 2) (by decide +kernel) rfl ?_
  refine ms_puti (idx := 1) (ci := 9) (k := 0) (q := 1391) (p' := 5) (by decide +kernel) rfl (k_223 hw) ?_
  refine ms_iload_n (k := 1) (p' := 6) (by decide +kernel) rfl rfl ?_
  refine ms_stat_i (idx := 327) (cy := yM_isTable) (n := 1) (as := [.inl x1]) (rest := []) (p' := 9) (by decide +kernel) rfl rfl rfl rfl rfl (fun f1 v2 => ?_)
  refine ms_if_eq (off := 12) (t := 21) (p' := 12) (by decide +kernel) rfl (fun hc => ?_) (fun hc => ?_)
  · refine ms_iconst (n := 0) (v := 0) (p' := 22) (by decide +kernel) rfl ?_
    exact (ms_zret (by decide +kernel)).trans (mj_gd_pos (by decide) _)
  · refine ms_iload_n (k := 2) (p' := 13) (by decide +kernel) rfl rfl ?_
    refine ms_iconst (n := 0) (v := 0) (p' := 14) (by decide +kernel) rfl ?_
    refine ms_iconst (n := 2) (v := 2) (p' := 15) (by decide +kernel) rfl ?_
    refine ms_stat_i (idx := 158) (cy := yM_isIn) (n := 3) (as := [.inl x2, .inl 0, .inl 2]) (rest := []) (p' := 18) (by decide +kernel) rfl rfl rfl rfl rfl (fun f3 v4 => ?_)
    refine ms_if_ne (off := 5) (t := 23) (p' := 21) (by decide +kernel) rfl (fun hc => ?_) (fun hc => ?_)
    · refine ms_aload_n (k := 0) (p' := 24) (by decide +kernel) rfl rfl ?_
      refine ms_virt_u (idx := 126) (cy := yM_nought) (n := 0) (a := 223) (as := []) (rest := []) (p' := 27) (by decide +kernel) rfl rfl rfl rfl (k_223 hw) rfl (fun f5 => ?_)
      refine ms_iload_n (k := 2) (p' := 28) (by decide +kernel) rfl rfl ?_
      refine ms_iconst (n := 1) (v := 1) (p' := 29) (by decide +kernel) rfl ?_
      refine ms_icmp_ne (off := 7) (t := 36) (p' := 32) (by decide +kernel) rfl (fun hc => ?_) (fun hc => ?_)
      · refine ms_aload_n (k := 0) (p' := 37) (by decide +kernel) rfl rfl ?_
        refine ms_iload_n (k := 2) (p' := 38) (by decide +kernel) rfl rfl ?_
        refine ms_iconst (n := 2) (v := 2) (p' := 39) (by decide +kernel) rfl ?_
        refine ms_icmp_ne (off := 7) (t := 46) (p' := 42) (by decide +kernel) rfl (fun hc => ?_) (fun hc => ?_)
        · refine ms_iconst (n := 0) (v := 0) (p' := 47) (by decide +kernel) rfl ?_
          refine Eq.trans (ms_putz (idx := 289) (ci := 9) (k := 53) (q := 1444) (p' := 50) (by decide +kernel) rfl (k_223 hw) (fun _ => ?_)) (mj_gd_pos (by decide) _)
          refine ms_aload_n (k := 0) (p' := 51) (by decide +kernel) rfl rfl ?_
          refine ms_iload_n (k := 1) (p' := 52) (by decide +kernel) rfl rfl ?_
          refine ms_virt_i (idx := 333) (cy := yM_becomesTable) (n := 1) (a := 223) (as := [.inl x1]) (rest := []) (p' := 55) (by decide +kernel) rfl rfl rfl rfl (k_223 hw) rfl (fun f6 v7 => ?_)
          refine ms_pop_i (p' := 56) (by decide +kernel) rfl ?_
          refine ms_iconst (n := 1) (v := 1) (p' := 57) (by decide +kernel) rfl ?_
          exact (ms_zret (by decide +kernel)).trans (mj_gd_pos (by decide) _)
        · refine ms_iconst (n := 1) (v := 1) (p' := 43) (by decide +kernel) rfl ?_
          refine ms_goto (off := 4) (p' := 47) (by decide +kernel) ?_
          refine Eq.trans (ms_putz (idx := 289) (ci := 9) (k := 53) (q := 1444) (p' := 50) (by decide +kernel) rfl (k_223 hw) (fun _ => ?_)) (mj_gd_pos (by decide) _)
          refine ms_aload_n (k := 0) (p' := 51) (by decide +kernel) rfl rfl ?_
          refine ms_iload_n (k := 1) (p' := 52) (by decide +kernel) rfl rfl ?_
          refine ms_virt_i (idx := 333) (cy := yM_becomesTable) (n := 1) (a := 223) (as := [.inl x1]) (rest := []) (p' := 55) (by decide +kernel) rfl rfl rfl rfl (k_223 hw) rfl (fun f8 v9 => ?_)
          refine ms_pop_i (p' := 56) (by decide +kernel) rfl ?_
          refine ms_iconst (n := 1) (v := 1) (p' := 57) (by decide +kernel) rfl ?_
          exact (ms_zret (by decide +kernel)).trans (mj_gd_pos (by decide) _)
      · refine ms_aload_n (k := 0) (p' := 33) (by decide +kernel) rfl rfl ?_
        refine ms_virt_u (idx := 330) (cy := yM_wide) (n := 0) (a := 223) (as := []) (rest := []) (p' := 36) (by decide +kernel) rfl rfl rfl rfl (k_223 hw) rfl (fun f10 => ?_)
        refine ms_aload_n (k := 0) (p' := 37) (by decide +kernel) rfl rfl ?_
        refine ms_iload_n (k := 2) (p' := 38) (by decide +kernel) rfl rfl ?_
        refine ms_iconst (n := 2) (v := 2) (p' := 39) (by decide +kernel) rfl ?_
        refine ms_icmp_ne (off := 7) (t := 46) (p' := 42) (by decide +kernel) rfl (fun hc => ?_) (fun hc => ?_)
        · refine ms_iconst (n := 0) (v := 0) (p' := 47) (by decide +kernel) rfl ?_
          refine Eq.trans (ms_putz (idx := 289) (ci := 9) (k := 53) (q := 1444) (p' := 50) (by decide +kernel) rfl (k_223 hw) (fun _ => ?_)) (mj_gd_pos (by decide) _)
          refine ms_aload_n (k := 0) (p' := 51) (by decide +kernel) rfl rfl ?_
          refine ms_iload_n (k := 1) (p' := 52) (by decide +kernel) rfl rfl ?_
          refine ms_virt_i (idx := 333) (cy := yM_becomesTable) (n := 1) (a := 223) (as := [.inl x1]) (rest := []) (p' := 55) (by decide +kernel) rfl rfl rfl rfl (k_223 hw) rfl (fun f11 v12 => ?_)
          refine ms_pop_i (p' := 56) (by decide +kernel) rfl ?_
          refine ms_iconst (n := 1) (v := 1) (p' := 57) (by decide +kernel) rfl ?_
          exact (ms_zret (by decide +kernel)).trans (mj_gd_pos (by decide) _)
        · refine ms_iconst (n := 1) (v := 1) (p' := 43) (by decide +kernel) rfl ?_
          refine ms_goto (off := 4) (p' := 47) (by decide +kernel) ?_
          refine Eq.trans (ms_putz (idx := 289) (ci := 9) (k := 53) (q := 1444) (p' := 50) (by decide +kernel) rfl (k_223 hw) (fun _ => ?_)) (mj_gd_pos (by decide) _)
          refine ms_aload_n (k := 0) (p' := 51) (by decide +kernel) rfl rfl ?_
          refine ms_iload_n (k := 1) (p' := 52) (by decide +kernel) rfl rfl ?_
          refine ms_virt_i (idx := 333) (cy := yM_becomesTable) (n := 1) (a := 223) (as := [.inl x1]) (rest := []) (p' := 55) (by decide +kernel) rfl rfl rfl rfl (k_223 hw) rfl (fun f13 v14 => ?_)
          refine ms_pop_i (p' := 56) (by decide +kernel) rfl ?_
          refine ms_iconst (n := 1) (v := 1) (p' := 57) (by decide +kernel) rfl ?_
          exact (ms_zret (by decide +kernel)).trans (mj_gd_pos (by decide) _)
    · refine ms_iconst (n := 0) (v := 0) (p' := 22) (by decide +kernel) rfl ?_
      exact (ms_zret (by decide +kernel)).trans (mj_gd_pos (by decide) _)
theorem c_M_arePair {sw : Bool} {w : mj_W} (hw : wk sw w) (f : mj_F) (x1 : Int) (x2 : Int)  : mj_call yM_arePair w f [.inr (.inl 223), .inl x1, .inl x2] = mj_bi (mj_call yM_isIn w f [.inl x1, .inl (-1), .inl (mj_w ((f 223 2) - 1))]) (fun f1 v2 => if v2 = 0 then some (w, f1, some (.inl 0)) else mj_bi (mj_call yM_isIn w f1 [.inl x2, .inl (-1), .inl (mj_w ((f1 223 2) - 1))]) (fun f3 v4 => if v4 = 0 then some (w, f3, some (.inl 0)) else if x1 = x2 then some (w, f3, some (.inl 0)) else some (w, f3, some (.inl 1)))) := by
  show mj_run yM_arePair w f 0 [.inr (.inl 223), .inl x1, .inl x2] [] = _
  refine ms_iload_n (k := 1) (p' := 1) (by decide +kernel) rfl rfl ?_
  refine ms_iconst (n := (-1)) (v := (-1)) (p' := 2) (by decide +kernel) rfl ?_
  refine ms_aload_n (k := 0) (p' := 3) (by decide +kernel) rfl rfl ?_
  refine ms_geti (idx := 242) (ci := 9) (k := 2) (q := 1393) (p' := 6) (by decide +kernel) rfl (k_223 hw) ?_
  refine ms_iconst (n := 1) (v := 1) (p' := 7) (by decide +kernel) rfl ?_
  refine ms_isub (p' := 8) (by decide +kernel) rfl ?_
  refine ms_stat_i (idx := 158) (cy := yM_isIn) (n := 3) (as := [.inl x1, .inl (-1), .inl (mj_w ((f 223 2) - 1))]) (rest := []) (p' := 11) (by decide +kernel) rfl rfl rfl rfl rfl (fun f1 v2 => ?_)
  refine ms_if_eq (off := 26) (t := 37) (p' := 14) (by decide +kernel) rfl (fun hc => ?_) (fun hc => ?_)
  · refine ms_iconst (n := 0) (v := 0) (p' := 38) (by decide +kernel) rfl ?_
    exact (ms_zret (by decide +kernel)).trans (mj_gd_pos (by decide) _)
  · refine ms_iload_n (k := 2) (p' := 15) (by decide +kernel) rfl rfl ?_
    refine ms_iconst (n := (-1)) (v := (-1)) (p' := 16) (by decide +kernel) rfl ?_
    refine ms_aload_n (k := 0) (p' := 17) (by decide +kernel) rfl rfl ?_
    refine ms_geti (idx := 242) (ci := 9) (k := 2) (q := 1393) (p' := 20) (by decide +kernel) rfl (k_223 hw) ?_
    refine ms_iconst (n := 1) (v := 1) (p' := 21) (by decide +kernel) rfl ?_
    refine ms_isub (p' := 22) (by decide +kernel) rfl ?_
    refine ms_stat_i (idx := 158) (cy := yM_isIn) (n := 3) (as := [.inl x2, .inl (-1), .inl (mj_w ((f1 223 2) - 1))]) (rest := []) (p' := 25) (by decide +kernel) rfl rfl rfl rfl rfl (fun f3 v4 => ?_)
    refine ms_if_eq (off := 12) (t := 37) (p' := 28) (by decide +kernel) rfl (fun hc => ?_) (fun hc => ?_)
    · refine ms_iconst (n := 0) (v := 0) (p' := 38) (by decide +kernel) rfl ?_
      exact (ms_zret (by decide +kernel)).trans (mj_gd_pos (by decide) _)
    · refine ms_iload_n (k := 1) (p' := 29) (by decide +kernel) rfl rfl ?_
      refine ms_iload_n (k := 2) (p' := 30) (by decide +kernel) rfl rfl ?_
      refine ms_icmp_eq (off := 7) (t := 37) (p' := 33) (by decide +kernel) rfl (fun hc => ?_) (fun hc => ?_)
      · refine ms_iconst (n := 0) (v := 0) (p' := 38) (by decide +kernel) rfl ?_
        exact (ms_zret (by decide +kernel)).trans (mj_gd_pos (by decide) _)
      · refine ms_iconst (n := 1) (v := 1) (p' := 34) (by decide +kernel) rfl ?_
        refine ms_goto (off := 4) (p' := 38) (by decide +kernel) ?_
        exact (ms_zret (by decide +kernel)).trans (mj_gd_pos (by decide) _)
theorem c_M_loads {sw : Bool} {w : mj_W} (hw : wk sw w) (f : mj_F) (x1 : Int)  : mj_call yM_loads w f [.inr (.inl 223), .inl x1] = mj_gd (0 ≤ (mj_w (100 + x1)) ∧ (mj_w (100 + x1)) < ((125 : Nat) : Int)) (if ¬ ((mj_u f 223 52 (mj_w ((f 223 2) + 1))) 234 (mj_w (100 + x1)).toNat) = 1 then mj_run yM_loads w (mj_u (mj_u f 223 52 (mj_w ((f 223 2) + 1))) 223 53 0) 34 [.inr (.inl 223), .inl x1, .inl 0, .inr (.inr (.inr 0))] [] else mj_run yM_loads w (mj_u (mj_u f 223 52 (mj_w ((f 223 2) + 1))) 223 53 1) 34 [.inr (.inl 223), .inl x1, .inl 0, .inr (.inr (.inr 0))] []) := by
  show mj_run yM_loads w f 0 [.inr (.inl 223), .inl x1, .inr (.inr (.inr 0)), .inr (.inr (.inr 0))] [] = _
  refine ms_aload_n (k := 0) (p' := 1) (by decide +kernel) rfl rfl ?_
  refine ms_aload_n (k := 0) (p' := 2) (by decide +kernel) rfl rfl ?_
  refine ms_geti (idx := 242) (ci := 9) (k := 2) (q := 1393) (p' := 5) (by decide +kernel) rfl (k_223 hw) ?_
  refine ms_iconst (n := 1) (v := 1) (p' := 6) (by decide +kernel) rfl ?_
  refine ms_iadd (p' := 7) (by decide +kernel) rfl ?_
  refine ms_puti (idx := 280) (ci := 9) (k := 52) (q := 1443) (p' := 10) (by decide +kernel) rfl (k_223 hw) ?_
  refine ms_aload_n (k := 0) (p' := 11) (by decide +kernel) rfl rfl ?_
  refine ms_aload_n (k := 0) (p' := 12) (by decide +kernel) rfl rfl ?_
  refine ms_getr (idx := 44) (ci := 9) (k := 16) (q := 1407) (p' := 15) (by decide +kernel) rfl (k_223 hw) (r_223_16 hw) (by decide) ?_
  refine ms_bipush (n := 100) (v := 100) (p' := 17) (by decide +kernel) rfl ?_
  refine ms_iload_n (k := 1) (p' := 18) (by decide +kernel) rfl rfl ?_
  refine ms_iadd (p' := 19) (by decide +kernel) rfl ?_
  refine ms_iald (p' := 20) (by decide +kernel) rfl (k_234 hw) (fun hj1 => ?_)
  refine ms_iconst (n := 1) (v := 1) (p' := 21) (by decide +kernel) rfl ?_
  refine ms_icmp_ne (off := 7) (t := 28) (p' := 24) (by decide +kernel) rfl (fun hc => ?_) (fun hc => ?_)
  · refine ms_iconst (n := 0) (v := 0) (p' := 29) (by decide +kernel) rfl ?_
    refine Eq.trans (ms_putz (idx := 289) (ci := 9) (k := 53) (q := 1444) (p' := 32) (by decide +kernel) rfl (k_223 hw) (fun _ => ?_)) (mj_gd_pos (by decide) _)
    refine ms_iconst (n := 0) (v := 0) (p' := 33) (by decide +kernel) rfl ?_
    refine ms_istore_n (k := 2) (ls' := [.inr (.inl 223), .inl x1, .inl 0, .inr (.inr (.inr 0))]) (p' := 34) (by decide +kernel) rfl (Nat.le_of_ble_eq_true rfl) rfl ?_
    rfl
  · refine ms_iconst (n := 1) (v := 1) (p' := 25) (by decide +kernel) rfl ?_
    refine ms_goto (off := 4) (p' := 29) (by decide +kernel) ?_
    refine Eq.trans (ms_putz (idx := 289) (ci := 9) (k := 53) (q := 1444) (p' := 32) (by decide +kernel) rfl (k_223 hw) (fun _ => ?_)) (mj_gd_pos (by decide) _)
    refine ms_iconst (n := 0) (v := 0) (p' := 33) (by decide +kernel) rfl ?_
    refine ms_istore_n (k := 2) (ls' := [.inr (.inl 223), .inl x1, .inl 0, .inr (.inr (.inr 0))]) (p' := 34) (by decide +kernel) rfl (Nat.le_of_ble_eq_true rfl) rfl ?_
    rfl
theorem l_M_loads_34 {sw : Bool} {w : mj_W} (hw : wk sw w) (f : mj_F) (x1 : Int) (x2 : Int) (u3 : mj_V)  : mj_run yM_loads w f 34 [.inr (.inl 223), .inl x1, .inl x2, u3] [] = if (f 223 52) ≤ x2 then some (w, f, none) else mj_run yM_loads w f 44 [.inr (.inl 223), .inl x1, .inl x2, .inl 0] [] := by
  refine ms_iload_n (k := 2) (p' := 35) (by decide +kernel) rfl rfl ?_
  refine ms_aload_n (k := 0) (p' := 36) (by decide +kernel) rfl rfl ?_
  refine ms_geti (idx := 280) (ci := 9) (k := 52) (q := 1443) (p' := 39) (by decide +kernel) rfl (k_223 hw) ?_
  refine ms_icmp_ge (off := 46) (t := 85) (p' := 42) (by decide +kernel) rfl (fun hc => ?_) (fun hc => ?_)
  · exact ms_vret (by decide +kernel)
  · refine ms_iconst (n := 0) (v := 0) (p' := 43) (by decide +kernel) rfl ?_
    refine ms_istore_n (k := 3) (ls' := [.inr (.inl 223), .inl x1, .inl x2, .inl 0]) (p' := 44) (by decide +kernel) rfl (Nat.le_of_ble_eq_true rfl) rfl ?_
    rfl
theorem l_M_loads_44 {sw : Bool} {w : mj_W} (hw : wk sw w) (f : mj_F) (x1 : Int) (x2 : Int) (x3 : Int)  : mj_run yM_loads w f 44 [.inr (.inl 223), .inl x1, .inl x2, .inl x3] [] = if (f 223 52) ≤ x3 then mj_run yM_loads w f 34 [.inr (.inl 223), .inl x1, .inl (mj_w (x2 + 1)), .inl x3] [] else mj_gd (0 ≤ (mj_w ((mj_w ((mj_w (25 * x1)) + (mj_w (5 * x2)))) + x3)) ∧ (mj_w ((mj_w ((mj_w (25 * x1)) + (mj_w (5 * x2)))) + x3)) < ((125 : Nat) : Int)) (mj_bu (mj_call yM_put w f [.inr (.inl 223), .inl x2, .inl x3, .inl (f 234 (mj_w ((mj_w ((mj_w (25 * x1)) + (mj_w (5 * x2)))) + x3)).toNat)]) (fun f3 => mj_run yM_loads w f3 44 [.inr (.inl 223), .inl x1, .inl x2, .inl (mj_w (x3 + 1))] [])) := by
  refine ms_iload_n (k := 3) (p' := 45) (by decide +kernel) rfl rfl ?_
  refine ms_aload_n (k := 0) (p' := 46) (by decide +kernel) rfl rfl ?_
  refine ms_geti (idx := 280) (ci := 9) (k := 52) (q := 1443) (p' := 49) (by decide +kernel) rfl (k_223 hw) ?_
  refine ms_icmp_ge (off := 30) (t := 79) (p' := 52) (by decide +kernel) rfl (fun hc => ?_) (fun hc => ?_)
  · refine ms_iinc (k := 2) (n := 1) (ls' := [.inr (.inl 223), .inl x1, .inl (mj_w (x2 + 1)), .inl x3]) (p' := 82) (by decide +kernel) rfl rfl rfl ?_
    refine ms_goto (off := (-48)) (p' := 34) (by decide +kernel) ?_
    rfl
  · refine ms_aload_n (k := 0) (p' := 53) (by decide +kernel) rfl rfl ?_
    refine ms_iload_n (k := 2) (p' := 54) (by decide +kernel) rfl rfl ?_
    refine ms_iload_n (k := 3) (p' := 55) (by decide +kernel) rfl rfl ?_
    refine ms_aload_n (k := 0) (p' := 56) (by decide +kernel) rfl rfl ?_
    refine ms_getr (idx := 44) (ci := 9) (k := 16) (q := 1407) (p' := 59) (by decide +kernel) rfl (k_223 hw) (r_223_16 hw) (by decide) ?_
    refine ms_bipush (n := 25) (v := 25) (p' := 61) (by decide +kernel) rfl ?_
    refine ms_iload_n (k := 1) (p' := 62) (by decide +kernel) rfl rfl ?_
    refine ms_imul (p' := 63) (by decide +kernel) rfl ?_
    refine ms_iconst (n := 5) (v := 5) (p' := 64) (by decide +kernel) rfl ?_
    refine ms_iload_n (k := 2) (p' := 65) (by decide +kernel) rfl rfl ?_
    refine ms_imul (p' := 66) (by decide +kernel) rfl ?_
    refine ms_iadd (p' := 67) (by decide +kernel) rfl ?_
    refine ms_iload_n (k := 3) (p' := 68) (by decide +kernel) rfl rfl ?_
    refine ms_iadd (p' := 69) (by decide +kernel) rfl ?_
    refine ms_iald (p' := 70) (by decide +kernel) rfl (k_234 hw) (fun hj2 => ?_)
    refine ms_virt_u (idx := 276) (cy := yM_put) (n := 3) (a := 223) (as := [.inl x2, .inl x3, .inl (f 234 (mj_w ((mj_w ((mj_w (25 * x1)) + (mj_w (5 * x2)))) + x3)).toNat)]) (rest := []) (p' := 73) (by decide +kernel) rfl rfl rfl rfl (k_223 hw) rfl (fun f3 => ?_)
    refine ms_iinc (k := 3) (n := 1) (ls' := [.inr (.inl 223), .inl x1, .inl x2, .inl (mj_w (x3 + 1))]) (p' := 76) (by decide +kernel) rfl rfl rfl ?_
    refine ms_goto (off := (-32)) (p' := 44) (by decide +kernel) ?_
    rfl
theorem c_M_meet {sw : Bool} {w : mj_W} (hw : wk sw w) (f : mj_F) (x1 : Int) (x2 : Int) (x3 : Int) (x4 : Int) (x5 : Int)  : mj_call yM_meet w f [.inr (.inl 223), .inl x1, .inl x2, .inl x3, .inl x4, .inl x5] = mj_bi (mj_call yM_isTable w (mj_u f 223 0 0) [.inl x1]) (fun f1 v2 => if v2 = 0 then some (w, f1, some (.inl (-1))) else mj_bi (mj_call yM_arePair w f1 [.inr (.inl 223), .inl x2, .inl x3]) (fun f3 v4 => if v4 = 0 then some (w, f3, some (.inl (-1))) else mj_bi (mj_call yM_isIn w f3 [.inl x4, .inl 0, .inl 4]) (fun f5 v6 => if v6 = 0 then some (w, f5, some (.inl (-1))) else mj_bi (mj_call yM_isIn w f5 [.inl x5, .inl (-100), .inl 100]) (fun f7 v8 => if ¬ v8 = 0 then mj_bu (mj_call yM_loads w f7 [.inr (.inl 223), .inl x1]) (fun f9 => mj_bu (mj_call yM_meets w f9 [.inr (.inl 223), .inl (mj_w (x2 + 1)), .inl (mj_w (x3 + 1)), .inl x4, .inl x5]) (fun f10 => mj_bu (mj_call yM_closes w f10 [.inr (.inl 223)]) (fun f11 => mj_bi (mj_call yM_becomesTable w f11 [.inr (.inl 223), .inl x1]) (fun f12 v13 => some (w, f12, some (.inl v13)))))) else some (w, f7, some (.inl (-1))))))) := by
  show mj_run yM_meet w f 0 [.inr (.inl 223), .inl x1, .inl x2, .inl x3, .inl x4, .inl x5] [] = _
  refine ms_aload_n (k := 0) (p' := 1) (by decide +kernel) rfl rfl ?_
  refine ms_iconst (n := 0) (v := 0) (p' := 2) (by decide +kernel) rfl ?_
  refine ms_puti (idx := 1) (ci := 9) (k := 0) (q := 1391) (p' := 5) (by decide +kernel) rfl (k_223 hw) ?_
  refine ms_iload_n (k := 1) (p' := 6) (by decide +kernel) rfl rfl ?_
  refine ms_stat_i (idx := 327) (cy := yM_isTable) (n := 1) (as := [.inl x1]) (rest := []) (p' := 9) (by decide +kernel) rfl rfl rfl rfl rfl (fun f1 v2 => ?_)
  refine ms_if_eq (off := 34) (t := 43) (p' := 12) (by decide +kernel) rfl (fun hc => ?_) (fun hc => ?_)
  · refine ms_iconst (n := (-1)) (v := (-1)) (p' := 44) (by decide +kernel) rfl ?_
    exact ms_iret (by decide +kernel)
  · refine ms_aload_n (k := 0) (p' := 13) (by decide +kernel) rfl rfl ?_
    refine ms_iload_n (k := 2) (p' := 14) (by decide +kernel) rfl rfl ?_
    refine ms_iload_n (k := 3) (p' := 15) (by decide +kernel) rfl rfl ?_
    refine ms_virt_i (idx := 336) (cy := yM_arePair) (n := 2) (a := 223) (as := [.inl x2, .inl x3]) (rest := []) (p' := 18) (by decide +kernel) rfl rfl rfl rfl (k_223 hw) rfl (fun f3 v4 => ?_)
    refine ms_if_eq (off := 25) (t := 43) (p' := 21) (by decide +kernel) rfl (fun hc => ?_) (fun hc => ?_)
    · refine ms_iconst (n := (-1)) (v := (-1)) (p' := 44) (by decide +kernel) rfl ?_
      exact ms_iret (by decide +kernel)
    · refine ms_iload (k := 4) (p' := 23) (by decide +kernel) rfl rfl ?_
      refine ms_iconst (n := 0) (v := 0) (p' := 24) (by decide +kernel) rfl ?_
      refine ms_iconst (n := 4) (v := 4) (p' := 25) (by decide +kernel) rfl ?_
      refine ms_stat_i (idx := 158) (cy := yM_isIn) (n := 3) (as := [.inl x4, .inl 0, .inl 4]) (rest := []) (p' := 28) (by decide +kernel) rfl rfl rfl rfl rfl (fun f5 v6 => ?_)
      refine ms_if_eq (off := 15) (t := 43) (p' := 31) (by decide +kernel) rfl (fun hc => ?_) (fun hc => ?_)
      · refine ms_iconst (n := (-1)) (v := (-1)) (p' := 44) (by decide +kernel) rfl ?_
        exact ms_iret (by decide +kernel)
      · refine ms_iload (k := 5) (p' := 33) (by decide +kernel) rfl rfl ?_
        refine ms_bipush (n := (-100)) (v := (-100)) (p' := 35) (by decide +kernel) rfl ?_
        refine ms_bipush (n := 100) (v := 100) (p' := 37) (by decide +kernel) rfl ?_
        refine ms_stat_i (idx := 158) (cy := yM_isIn) (n := 3) (as := [.inl x5, .inl (-100), .inl 100]) (rest := []) (p' := 40) (by decide +kernel) rfl rfl rfl rfl rfl (fun f7 v8 => ?_)
        refine ms_if_ne (off := 5) (t := 45) (p' := 43) (by decide +kernel) rfl (fun hc => ?_) (fun hc => ?_)
        · refine ms_aload_n (k := 0) (p' := 46) (by decide +kernel) rfl rfl ?_
          refine ms_iload_n (k := 1) (p' := 47) (by decide +kernel) rfl rfl ?_
          refine ms_virt_u (idx := 340) (cy := yM_loads) (n := 1) (a := 223) (as := [.inl x1]) (rest := []) (p' := 50) (by decide +kernel) rfl rfl rfl rfl (k_223 hw) rfl (fun f9 => ?_)
          refine ms_aload_n (k := 0) (p' := 51) (by decide +kernel) rfl rfl ?_
          refine ms_iload_n (k := 2) (p' := 52) (by decide +kernel) rfl rfl ?_
          refine ms_iconst (n := 1) (v := 1) (p' := 53) (by decide +kernel) rfl ?_
          refine ms_iadd (p' := 54) (by decide +kernel) rfl ?_
          refine ms_iload_n (k := 3) (p' := 55) (by decide +kernel) rfl rfl ?_
          refine ms_iconst (n := 1) (v := 1) (p' := 56) (by decide +kernel) rfl ?_
          refine ms_iadd (p' := 57) (by decide +kernel) rfl ?_
          refine ms_iload (k := 4) (p' := 59) (by decide +kernel) rfl rfl ?_
          refine ms_iload (k := 5) (p' := 61) (by decide +kernel) rfl rfl ?_
          refine ms_virt_u (idx := 296) (cy := yM_meets) (n := 4) (a := 223) (as := [.inl (mj_w (x2 + 1)), .inl (mj_w (x3 + 1)), .inl x4, .inl x5]) (rest := []) (p' := 64) (by decide +kernel) rfl rfl rfl rfl (k_223 hw) rfl (fun f10 => ?_)
          refine ms_aload_n (k := 0) (p' := 65) (by decide +kernel) rfl rfl ?_
          refine ms_virt_u (idx := 300) (cy := yM_closes) (n := 0) (a := 223) (as := []) (rest := []) (p' := 68) (by decide +kernel) rfl rfl rfl rfl (k_223 hw) rfl (fun f11 => ?_)
          refine ms_aload_n (k := 0) (p' := 69) (by decide +kernel) rfl rfl ?_
          refine ms_iload_n (k := 1) (p' := 70) (by decide +kernel) rfl rfl ?_
          refine ms_virt_i (idx := 333) (cy := yM_becomesTable) (n := 1) (a := 223) (as := [.inl x1]) (rest := []) (p' := 73) (by decide +kernel) rfl rfl rfl rfl (k_223 hw) rfl (fun f12 v13 => ?_)
          exact ms_iret (by decide +kernel)
        · refine ms_iconst (n := (-1)) (v := (-1)) (p' := 44) (by decide +kernel) rfl ?_
          exact ms_iret (by decide +kernel)
theorem c_M_downs {sw : Bool} {w : mj_W} (hw : wk sw w) (f : mj_F)   : mj_call yM_downs w f [.inr (.inl 223)] = mj_run yM_downs w f 2 [.inr (.inl 223), .inl 1] [] := by
  show mj_run yM_downs w f 0 [.inr (.inl 223), .inr (.inr (.inr 0))] [] = _
  refine ms_iconst (n := 1) (v := 1) (p' := 1) (by decide +kernel) rfl ?_
  refine ms_istore_n (k := 1) (ls' := [.inr (.inl 223), .inl 1]) (p' := 2) (by decide +kernel) rfl (Nat.le_of_ble_eq_true rfl) rfl ?_
  rfl
theorem l_M_downs_2 {sw : Bool} {w : mj_W} (hw : wk sw w) (f : mj_F) (x1 : Int)  : mj_run yM_downs w f 2 [.inr (.inl 223), .inl x1] [] = if (f 223 52) ≤ x1 then mj_bu (mj_call yM_closes w f [.inr (.inl 223)]) (fun f1 => some (w, f1, none)) else mj_bu (mj_call yM_put w f [.inr (.inl 223), .inl 0, .inl x1, .inl 1]) (fun f2 => mj_run yM_downs w f2 2 [.inr (.inl 223), .inl (mj_w (x1 + 1))] []) := by
  refine ms_iload_n (k := 1) (p' := 3) (by decide +kernel) rfl rfl ?_
  refine ms_aload_n (k := 0) (p' := 4) (by decide +kernel) rfl rfl ?_
  refine ms_geti (idx := 280) (ci := 9) (k := 52) (q := 1443) (p' := 7) (by decide +kernel) rfl (k_223 hw) ?_
  refine ms_icmp_ge (off := 16) (t := 23) (p' := 10) (by decide +kernel) rfl (fun hc => ?_) (fun hc => ?_)
  · refine ms_aload_n (k := 0) (p' := 24) (by decide +kernel) rfl rfl ?_
    refine ms_virt_u (idx := 300) (cy := yM_closes) (n := 0) (a := 223) (as := []) (rest := []) (p' := 27) (by decide +kernel) rfl rfl rfl rfl (k_223 hw) rfl (fun f1 => ?_)
    exact ms_vret (by decide +kernel)
  · refine ms_aload_n (k := 0) (p' := 11) (by decide +kernel) rfl rfl ?_
    refine ms_iconst (n := 0) (v := 0) (p' := 12) (by decide +kernel) rfl ?_
    refine ms_iload_n (k := 1) (p' := 13) (by decide +kernel) rfl rfl ?_
    refine ms_iconst (n := 1) (v := 1) (p' := 14) (by decide +kernel) rfl ?_
    refine ms_virt_u (idx := 276) (cy := yM_put) (n := 3) (a := 223) (as := [.inl 0, .inl x1, .inl 1]) (rest := []) (p' := 17) (by decide +kernel) rfl rfl rfl rfl (k_223 hw) rfl (fun f2 => ?_)
    refine ms_iinc (k := 1) (n := 1) (ls' := [.inr (.inl 223), .inl (mj_w (x1 + 1))]) (p' := 20) (by decide +kernel) rfl rfl rfl ?_
    refine ms_goto (off := (-18)) (p' := 2) (by decide +kernel) ?_
    rfl
