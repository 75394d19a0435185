/-! What each method does from its entry (c_), and from the heads of its loops (l_). Written by wip/whole/gen/mkall.py out of the bytes. -/
theorem c_M_pass {sw : Bool} {w : mj_W} (hw : wk sw w) (f : mj_F) (x1 : Int) (x2 : Int)  : mj_call yM_pass w f [.inr (.inl 223), .inl x1, .inl x2] = mj_bi (mj_call yM_isTable w (mj_u f 223 0 0) [.inl x1]) (fun f1 v2 => if v2 = 0 then some (w, f1, some (.inl (-1))) else mj_bi (mj_call yM_isTwo w f1 [.inl x2]) (fun f3 v4 => if ¬ v4 = 0 then mj_bu (mj_call yM_loads w f3 [.inr (.inl 223), .inl x1]) (fun f5 => if ¬ x2 = 0 then mj_bu (mj_call yM_downs w f5 [.inr (.inl 223)]) (fun f6 => mj_bi (mj_call yM_becomesTable w f6 [.inr (.inl 223), .inl x1]) (fun f7 v8 => some (w, f7, some (.inl v8)))) else mj_bu (mj_call yM_ups w f5 [.inr (.inl 223)]) (fun f9 => mj_bi (mj_call yM_becomesTable w f9 [.inr (.inl 223), .inl x1]) (fun f10 v11 => some (w, f10, some (.inl v11))))) else some (w, f3, some (.inl (-1))))) := by
  show mj_run yM_pass w f 0 [.inr (.inl 223), .inl x1, .inl x2] [] = _
  refine ms_aload_n (k := 0) (p' := 1) (by decide +kernel) rfl rfl ?_
  refine ms_iconst (n := 0) (v := 0) (p' := 2) (by decide +kernel) rfl ?_
  refine ms_puti (idx := 1) (ci := 9) (k := 0) (q := 1391) (p' := 5) (by decide +kernel) rfl (k_223 hw) ?_
  refine ms_iload_n (k := 1) (p' := 6) (by decide +kernel) rfl rfl ?_
  refine ms_stat_i (idx := 327) (cy := yM_isTable) (n := 1) (as := [.inl x1]) (rest := []) (p' := 9) (by decide +kernel) rfl rfl rfl rfl rfl (fun f1 v2 => ?_)
  refine ms_if_eq (off := 10) (t := 19) (p' := 12) (by decide +kernel) rfl (fun hc => ?_) (fun hc => ?_)
  · refine ms_iconst (n := (-1)) (v := (-1)) (p' := 20) (by decide +kernel) rfl ?_
    exact ms_iret (by decide +kernel)
  · refine ms_iload_n (k := 2) (p' := 13) (by decide +kernel) rfl rfl ?_
    refine ms_stat_i (idx := 343) (cy := yM_isTwo) (n := 1) (as := [.inl x2]) (rest := []) (p' := 16) (by decide +kernel) rfl rfl rfl rfl rfl (fun f3 v4 => ?_)
    refine ms_if_ne (off := 5) (t := 21) (p' := 19) (by decide +kernel) rfl (fun hc => ?_) (fun hc => ?_)
    · refine ms_aload_n (k := 0) (p' := 22) (by decide +kernel) rfl rfl ?_
      refine ms_iload_n (k := 1) (p' := 23) (by decide +kernel) rfl rfl ?_
      refine ms_virt_u (idx := 340) (cy := yM_loads) (n := 1) (a := 223) (as := [.inl x1]) (rest := []) (p' := 26) (by decide +kernel) rfl rfl rfl rfl (k_223 hw) rfl (fun f5 => ?_)
      refine ms_iload_n (k := 2) (p' := 27) (by decide +kernel) rfl rfl ?_
      refine ms_if_ne (off := 10) (t := 37) (p' := 30) (by decide +kernel) rfl (fun hc => ?_) (fun hc => ?_)
      · refine ms_aload_n (k := 0) (p' := 38) (by decide +kernel) rfl rfl ?_
        refine ms_virt_u (idx := 346) (cy := yM_downs) (n := 0) (a := 223) (as := []) (rest := []) (p' := 41) (by decide +kernel) rfl rfl rfl rfl (k_223 hw) rfl (fun f6 => ?_)
        refine ms_aload_n (k := 0) (p' := 42) (by decide +kernel) rfl rfl ?_
        refine ms_iload_n (k := 1) (p' := 43) (by decide +kernel) rfl rfl ?_
        refine ms_virt_i (idx := 333) (cy := yM_becomesTable) (n := 1) (a := 223) (as := [.inl x1]) (rest := []) (p' := 46) (by decide +kernel) rfl rfl rfl rfl (k_223 hw) rfl (fun f7 v8 => ?_)
        exact ms_iret (by decide +kernel)
      · refine ms_aload_n (k := 0) (p' := 31) (by decide +kernel) rfl rfl ?_
        refine ms_virt_u (idx := 306) (cy := yM_ups) (n := 0) (a := 223) (as := []) (rest := []) (p' := 34) (by decide +kernel) rfl rfl rfl rfl (k_223 hw) rfl (fun f9 => ?_)
        refine ms_goto (off := 7) (p' := 41) (by decide +kernel) ?_
        refine ms_aload_n (k := 0) (p' := 42) (by decide +kernel) rfl rfl ?_
        refine ms_iload_n (k := 1) (p' := 43) (by decide +kernel) rfl rfl ?_
        refine ms_virt_i (idx := 333) (cy := yM_becomesTable) (n := 1) (a := 223) (as := [.inl x1]) (rest := []) (p' := 46) (by decide +kernel) rfl rfl rfl rfl (k_223 hw) rfl (fun f10 v11 => ?_)
        exact ms_iret (by decide +kernel)
    · refine ms_iconst (n := (-1)) (v := (-1)) (p' := 20) (by decide +kernel) rfl ?_
      exact ms_iret (by decide +kernel)
theorem c_M_reset {sw : Bool} {w : mj_W} (hw : wk sw w) (f : mj_F) (x1 : Int) (x2 : Int) (x3 : Int)  : mj_call yM_reset w f [.inr (.inl 223), .inl x1, .inl x2, .inl x3] = mj_bi (mj_call yM_isTable w (mj_u f 223 0 0) [.inl x1]) (fun f1 v2 => if v2 = 0 then some (w, f1, some (.inl (-1))) else mj_bi (mj_call yM_isClock w f1 [.inr (.inl 223), .inl x2]) (fun f3 v4 => if v4 = 0 then some (w, f3, some (.inl (-1))) else mj_bi (mj_call yM_isIn w f3 [.inl x3, .inl 0, .inl 50]) (fun f5 v6 => if ¬ v6 = 0 then mj_bu (mj_call yM_loads w f5 [.inr (.inl 223), .inl x1]) (fun f7 => mj_bu (mj_call yM_sets w f7 [.inr (.inl 223), .inl (mj_w (x2 + 1)), .inl x3]) (fun f8 => mj_bi (mj_call yM_becomesTable w f8 [.inr (.inl 223), .inl x1]) (fun f9 v10 => some (w, f9, some (.inl v10))))) else some (w, f5, some (.inl (-1)))))) := by
  show mj_run yM_reset w f 0 [.inr (.inl 223), .inl x1, .inl x2, .inl x3] [] = _
  refine ms_aload_n (k := 0) (p' := 1) (by decide +kernel) rfl rfl ?_
  refine ms_iconst (n := 0) (v := 0) (p' := 2) (by decide +kernel) rfl ?_
  refine ms_puti (idx := 1) (ci := 9) (k := 0) (q := 1391) (p' := 5) (by decide +kernel) rfl (k_223 hw) ?_
  refine ms_iload_n (k := 1) (p' := 6) (by decide +kernel) rfl rfl ?_
  refine ms_stat_i (idx := 327) (cy := yM_isTable) (n := 1) (as := [.inl x1]) (rest := []) (p' := 9) (by decide +kernel) rfl rfl rfl rfl rfl (fun f1 v2 => ?_)
  refine ms_if_eq (off := 21) (t := 30) (p' := 12) (by decide +kernel) rfl (fun hc => ?_) (fun hc => ?_)
  · refine ms_iconst (n := (-1)) (v := (-1)) (p' := 31) (by decide +kernel) rfl ?_
    exact ms_iret (by decide +kernel)
  · refine ms_aload_n (k := 0) (p' := 13) (by decide +kernel) rfl rfl ?_
    refine ms_iload_n (k := 2) (p' := 14) (by decide +kernel) rfl rfl ?_
    refine ms_virt_i (idx := 349) (cy := yM_isClock) (n := 1) (a := 223) (as := [.inl x2]) (rest := []) (p' := 17) (by decide +kernel) rfl rfl rfl rfl (k_223 hw) rfl (fun f3 v4 => ?_)
    refine ms_if_eq (off := 13) (t := 30) (p' := 20) (by decide +kernel) rfl (fun hc => ?_) (fun hc => ?_)
    · refine ms_iconst (n := (-1)) (v := (-1)) (p' := 31) (by decide +kernel) rfl ?_
      exact ms_iret (by decide +kernel)
    · refine ms_iload_n (k := 3) (p' := 21) (by decide +kernel) rfl rfl ?_
      refine ms_iconst (n := 0) (v := 0) (p' := 22) (by decide +kernel) rfl ?_
      refine ms_bipush (n := 50) (v := 50) (p' := 24) (by decide +kernel) rfl ?_
      refine ms_stat_i (idx := 158) (cy := yM_isIn) (n := 3) (as := [.inl x3, .inl 0, .inl 50]) (rest := []) (p' := 27) (by decide +kernel) rfl rfl rfl rfl rfl (fun f5 v6 => ?_)
      refine ms_if_ne (off := 5) (t := 32) (p' := 30) (by decide +kernel) rfl (fun hc => ?_) (fun hc => ?_)
      · refine ms_aload_n (k := 0) (p' := 33) (by decide +kernel) rfl rfl ?_
        refine ms_iload_n (k := 1) (p' := 34) (by decide +kernel) rfl rfl ?_
        refine ms_virt_u (idx := 340) (cy := yM_loads) (n := 1) (a := 223) (as := [.inl x1]) (rest := []) (p' := 37) (by decide +kernel) rfl rfl rfl rfl (k_223 hw) rfl (fun f7 => ?_)
        refine ms_aload_n (k := 0) (p' := 38) (by decide +kernel) rfl rfl ?_
        refine ms_iload_n (k := 2) (p' := 39) (by decide +kernel) rfl rfl ?_
        refine ms_iconst (n := 1) (v := 1) (p' := 40) (by decide +kernel) rfl ?_
        refine ms_iadd (p' := 41) (by decide +kernel) rfl ?_
        refine ms_iload_n (k := 3) (p' := 42) (by decide +kernel) rfl rfl ?_
        refine ms_virt_u (idx := 309) (cy := yM_sets) (n := 2) (a := 223) (as := [.inl (mj_w (x2 + 1)), .inl x3]) (rest := []) (p' := 45) (by decide +kernel) rfl rfl rfl rfl (k_223 hw) rfl (fun f8 => ?_)
        refine ms_aload_n (k := 0) (p' := 46) (by decide +kernel) rfl rfl ?_
        refine ms_iload_n (k := 1) (p' := 47) (by decide +kernel) rfl rfl ?_
        refine ms_virt_i (idx := 333) (cy := yM_becomesTable) (n := 1) (a := 223) (as := [.inl x1]) (rest := []) (p' := 50) (by decide +kernel) rfl rfl rfl rfl (k_223 hw) rfl (fun f9 v10 => ?_)
        exact ms_iret (by decide +kernel)
      · refine ms_iconst (n := (-1)) (v := (-1)) (p' := 31) (by decide +kernel) rfl ?_
        exact ms_iret (by decide +kernel)
theorem c_M_frees {sw : Bool} {w : mj_W} (hw : wk sw w) (f : mj_F) (x1 : Int)  : mj_call yM_frees w f [.inr (.inl 223), .inl x1] = mj_run yM_frees w f 2 [.inr (.inl 223), .inl x1, .inl 0] [] := by
  show mj_run yM_frees w f 0 [.inr (.inl 223), .inl x1, .inr (.inr (.inr 0))] [] = _
  refine ms_iconst (n := 0) (v := 0) (p' := 1) (by decide +kernel) rfl ?_
  refine ms_istore_n (k := 2) (ls' := [.inr (.inl 223), .inl x1, .inl 0]) (p' := 2) (by decide +kernel) rfl (Nat.le_of_ble_eq_true rfl) rfl ?_
  rfl
theorem l_M_frees_2 {sw : Bool} {w : mj_W} (hw : wk sw w) (f : mj_F) (x1 : Int) (x2 : Int)  : mj_run yM_frees w f 2 [.inr (.inl 223), .inl x1, .inl x2] [] = if (f 223 52) ≤ x2 then mj_bu (mj_call yM_put w f [.inr (.inl 223), .inl 0, .inl x1, .inl 1]) (fun f1 => some (w, f1, none)) else if ¬ x2 = x1 then mj_bu (mj_call yM_put w f [.inr (.inl 223), .inl x1, .inl x2, .inl 1000000]) (fun f2 => mj_bi (mj_call yM_get w f2 [.inr (.inl 223), .inl x2, .inl 0]) (fun f3 v4 => mj_bu (mj_call yM_put w f3 [.inr (.inl 223), .inl x2, .inl x1, .inl v4]) (fun f5 => mj_run yM_frees w f5 2 [.inr (.inl 223), .inl x1, .inl (mj_w (x2 + 1))] []))) else mj_run yM_frees w f 2 [.inr (.inl 223), .inl x1, .inl (mj_w (x2 + 1))] [] := by
  refine ms_iload_n (k := 2) (p' := 3) (by decide +kernel) rfl rfl ?_
  refine ms_aload_n (k := 0) (p' := 4) (by decide +kernel) rfl rfl ?_
  refine ms_geti (idx := 280) (ci := 9) (k := 52) (q := 1443) (p' := 7) (by decide +kernel) rfl (k_223 hw) ?_
  refine ms_icmp_ge (off := 38) (t := 45) (p' := 10) (by decide +kernel) rfl (fun hc => ?_) (fun hc => ?_)
  · refine ms_aload_n (k := 0) (p' := 46) (by decide +kernel) rfl rfl ?_
    refine ms_iconst (n := 0) (v := 0) (p' := 47) (by decide +kernel) rfl ?_
    refine ms_iload_n (k := 1) (p' := 48) (by decide +kernel) rfl rfl ?_
    refine ms_iconst (n := 1) (v := 1) (p' := 49) (by decide +kernel) rfl ?_
    refine ms_virt_u (idx := 276) (cy := yM_put) (n := 3) (a := 223) (as := [.inl 0, .inl x1, .inl 1]) (rest := []) (p' := 52) (by decide +kernel) rfl rfl rfl rfl (k_223 hw) rfl (fun f1 => ?_)
    exact ms_vret (by decide +kernel)
  · refine ms_iload_n (k := 2) (p' := 11) (by decide +kernel) rfl rfl ?_
    refine ms_iload_n (k := 1) (p' := 12) (by decide +kernel) rfl rfl ?_
    refine ms_icmp_ne (off := 6) (t := 18) (p' := 15) (by decide +kernel) rfl (fun hc => ?_) (fun hc => ?_)
    · refine ms_aload_n (k := 0) (p' := 19) (by decide +kernel) rfl rfl ?_
      refine ms_iload_n (k := 1) (p' := 20) (by decide +kernel) rfl rfl ?_
      refine ms_iload_n (k := 2) (p' := 21) (by decide +kernel) rfl rfl ?_
      refine ms_ldc_w (idx := 271) (v := 1000000) (p' := 24) (by decide +kernel) rfl ?_
      refine ms_virt_u (idx := 276) (cy := yM_put) (n := 3) (a := 223) (as := [.inl x1, .inl x2, .inl 1000000]) (rest := []) (p' := 27) (by decide +kernel) rfl rfl rfl rfl (k_223 hw) rfl (fun f2 => ?_)
      refine ms_aload_n (k := 0) (p' := 28) (by decide +kernel) rfl rfl ?_
      refine ms_iload_n (k := 2) (p' := 29) (by decide +kernel) rfl rfl ?_
      refine ms_iload_n (k := 1) (p' := 30) (by decide +kernel) rfl rfl ?_
      refine ms_aload_n (k := 0) (p' := 31) (by decide +kernel) rfl rfl ?_
      refine ms_iload_n (k := 2) (p' := 32) (by decide +kernel) rfl rfl ?_
      refine ms_iconst (n := 0) (v := 0) (p' := 33) (by decide +kernel) rfl ?_
      refine ms_virt_i (idx := 272) (cy := yM_get) (n := 2) (a := 223) (as := [.inl x2, .inl 0]) (rest := [.inl x1, .inl x2, .inr (.inl 223)]) (p' := 36) (by decide +kernel) rfl rfl rfl rfl (k_223 hw) rfl (fun f3 v4 => ?_)
      refine ms_virt_u (idx := 276) (cy := yM_put) (n := 3) (a := 223) (as := [.inl x2, .inl x1, .inl v4]) (rest := []) (p' := 39) (by decide +kernel) rfl rfl rfl rfl (k_223 hw) rfl (fun f5 => ?_)
      refine ms_iinc (k := 2) (n := 1) (ls' := [.inr (.inl 223), .inl x1, .inl (mj_w (x2 + 1))]) (p' := 42) (by decide +kernel) rfl rfl rfl ?_
      refine ms_goto (off := (-40)) (p' := 2) (by decide +kernel) ?_
      rfl
    · refine ms_goto (off := 24) (p' := 39) (by decide +kernel) ?_
      refine ms_iinc (k := 2) (n := 1) (ls' := [.inr (.inl 223), .inl x1, .inl (mj_w (x2 + 1))]) (p' := 42) (by decide +kernel) rfl rfl rfl ?_
      refine ms_goto (off := (-40)) (p' := 2) (by decide +kernel) ?_
      rfl
theorem c_M_free {sw : Bool} {w : mj_W} (hw : wk sw w) (f : mj_F) (x1 : Int) (x2 : Int)  : mj_call yM_free w f [.inr (.inl 223), .inl x1, .inl x2] = mj_bi (mj_call yM_isTable w (mj_u f 223 0 0) [.inl x1]) (fun f1 v2 => if v2 = 0 then some (w, f1, some (.inl (-1))) else mj_bi (mj_call yM_isClock w f1 [.inr (.inl 223), .inl x2]) (fun f3 v4 => if ¬ v4 = 0 then mj_bu (mj_call yM_loads w f3 [.inr (.inl 223), .inl x1]) (fun f5 => mj_bu (mj_call yM_frees w f5 [.inr (.inl 223), .inl (mj_w (x2 + 1))]) (fun f6 => mj_bi (mj_call yM_becomesTable w f6 [.inr (.inl 223), .inl x1]) (fun f7 v8 => some (w, f7, some (.inl v8))))) else some (w, f3, some (.inl (-1))))) := by
  show mj_run yM_free w f 0 [.inr (.inl 223), .inl x1, .inl x2] [] = _
  refine ms_aload_n (k := 0) (p' := 1) (by decide +kernel) rfl rfl ?_
  refine ms_iconst (n := 0) (v := 0) (p' := 2) (by decide +kernel) rfl ?_
  refine ms_puti (idx := 1) (ci := 9) (k := 0) (q := 1391) (p' := 5) (by decide +kernel) rfl (k_223 hw) ?_
  refine ms_iload_n (k := 1) (p' := 6) (by decide +kernel) rfl rfl ?_
  refine ms_stat_i (idx := 327) (cy := yM_isTable) (n := 1) (as := [.inl x1]) (rest := []) (p' := 9) (by decide +kernel) rfl rfl rfl rfl rfl (fun f1 v2 => ?_)
  refine ms_if_eq (off := 11) (t := 20) (p' := 12) (by decide +kernel) rfl (fun hc => ?_) (fun hc => ?_)
  · refine ms_iconst (n := (-1)) (v := (-1)) (p' := 21) (by decide +kernel) rfl ?_
    exact ms_iret (by decide +kernel)
  · refine ms_aload_n (k := 0) (p' := 13) (by decide +kernel) rfl rfl ?_
    refine ms_iload_n (k := 2) (p' := 14) (by decide +kernel) rfl rfl ?_
    refine ms_virt_i (idx := 349) (cy := yM_isClock) (n := 1) (a := 223) (as := [.inl x2]) (rest := []) (p' := 17) (by decide +kernel) rfl rfl rfl rfl (k_223 hw) rfl (fun f3 v4 => ?_)
    refine ms_if_ne (off := 5) (t := 22) (p' := 20) (by decide +kernel) rfl (fun hc => ?_) (fun hc => ?_)
    · refine ms_aload_n (k := 0) (p' := 23) (by decide +kernel) rfl rfl ?_
      refine ms_iload_n (k := 1) (p' := 24) (by decide +kernel) rfl rfl ?_
      refine ms_virt_u (idx := 340) (cy := yM_loads) (n := 1) (a := 223) (as := [.inl x1]) (rest := []) (p' := 27) (by decide +kernel) rfl rfl rfl rfl (k_223 hw) rfl (fun f5 => ?_)
      refine ms_aload_n (k := 0) (p' := 28) (by decide +kernel) rfl rfl ?_
      refine ms_iload_n (k := 2) (p' := 29) (by decide +kernel) rfl rfl ?_
      refine ms_iconst (n := 1) (v := 1) (p' := 30) (by decide +kernel) rfl ?_
      refine ms_iadd (p' := 31) (by decide +kernel) rfl ?_
      refine ms_virt_u (idx := 315) (cy := yM_frees) (n := 1) (a := 223) (as := [.inl (mj_w (x2 + 1))]) (rest := []) (p' := 34) (by decide +kernel) rfl rfl rfl rfl (k_223 hw) rfl (fun f6 => ?_)
      refine ms_aload_n (k := 0) (p' := 35) (by decide +kernel) rfl rfl ?_
      refine ms_iload_n (k := 1) (p' := 36) (by decide +kernel) rfl rfl ?_
      refine ms_virt_i (idx := 333) (cy := yM_becomesTable) (n := 1) (a := 223) (as := [.inl x1]) (rest := []) (p' := 39) (by decide +kernel) rfl rfl rfl rfl (k_223 hw) rfl (fun f7 v8 => ?_)
      exact ms_iret (by decide +kernel)
    · refine ms_iconst (n := (-1)) (v := (-1)) (p' := 21) (by decide +kernel) rfl ?_
      exact ms_iret (by decide +kernel)
theorem c_M_copy {sw : Bool} {w : mj_W} (hw : wk sw w) (f : mj_F) (x1 : Int) (x2 : Int)  : mj_call yM_copy w f [.inr (.inl 223), .inl x1, .inl x2] = mj_bi (mj_call yM_isTable w (mj_u f 223 0 0) [.inl x1]) (fun f1 v2 => if v2 = 0 then some (w, f1, some (.inl (-1))) else mj_bi (mj_call yM_isTable w f1 [.inl x2]) (fun f3 v4 => if ¬ v4 = 0 then mj_bu (mj_call yM_loads w f3 [.inr (.inl 223), .inl x2]) (fun f5 => mj_bi (mj_call yM_becomesTable w f5 [.inr (.inl 223), .inl x1]) (fun f6 v7 => some (w, f6, some (.inl v7)))) else some (w, f3, some (.inl (-1))))) := by
  show mj_run yM_copy w f 0 [.inr (.inl 223), .inl x1, .inl x2] [] = _
  refine ms_aload_n (k := 0) (p' := 1) (by decide +kernel) rfl rfl ?_
  refine ms_iconst (n := 0) (v := 0) (p' := 2) (by decide +kernel) rfl ?_
  refine ms_puti (idx := 1) (ci := 9) (k := 0) (q := 1391) (p' := 5) (by decide +kernel) rfl (k_223 hw) ?_
  refine ms_iload_n (k := 1) (p' := 6) (by decide +kernel) rfl rfl ?_
  refine ms_stat_i (idx := 327) (cy := yM_isTable) (n := 1) (as := [.inl x1]) (rest := []) (p' := 9) (by decide +kernel) rfl rfl rfl rfl rfl (fun f1 v2 => ?_)
  refine ms_if_eq (off := 10) (t := 19) (p' := 12) (by decide +kernel) rfl (fun hc => ?_) (fun hc => ?_)
  · refine ms_iconst (n := (-1)) (v := (-1)) (p' := 20) (by decide +kernel) rfl ?_
    exact ms_iret (by decide +kernel)
  · refine ms_iload_n (k := 2) (p' := 13) (by decide +kernel) rfl rfl ?_
    refine ms_stat_i (idx := 327) (cy := yM_isTable) (n := 1) (as := [.inl x2]) (rest := []) (p' := 16) (by decide +kernel) rfl rfl rfl rfl rfl (fun f3 v4 => ?_)
    refine ms_if_ne (off := 5) (t := 21) (p' := 19) (by decide +kernel) rfl (fun hc => ?_) (fun hc => ?_)
    · refine ms_aload_n (k := 0) (p' := 22) (by decide +kernel) rfl rfl ?_
      refine ms_iload_n (k := 2) (p' := 23) (by decide +kernel) rfl rfl ?_
      refine ms_virt_u (idx := 340) (cy := yM_loads) (n := 1) (a := 223) (as := [.inl x2]) (rest := []) (p' := 26) (by decide +kernel) rfl rfl rfl rfl (k_223 hw) rfl (fun f5 => ?_)
      refine ms_aload_n (k := 0) (p' := 27) (by decide +kernel) rfl rfl ?_
      refine ms_iload_n (k := 1) (p' := 28) (by decide +kernel) rfl rfl ?_
      refine ms_virt_i (idx := 333) (cy := yM_becomesTable) (n := 1) (a := 223) (as := [.inl x1]) (rest := []) (p' := 31) (by decide +kernel) rfl rfl rfl rfl (k_223 hw) rfl (fun f6 v7 => ?_)
      exact ms_iret (by decide +kernel)
    · refine ms_iconst (n := (-1)) (v := (-1)) (p' := 20) (by decide +kernel) rfl ?_
      exact ms_iret (by decide +kernel)
theorem c_M_other {sw : Bool} {w : mj_W} (hw : wk sw w) (f : mj_F) (x1 : Int) (x2 : Int) (x3 : Int)  : mj_call yM_other w f [.inr (.inl 223), .inl x1, .inl x2, .inl x3] = mj_gd (0 ≤ (mj_w ((mj_w ((mj_w (25 * x1)) + (mj_w (5 * x2)))) + x3)) ∧ (mj_w ((mj_w ((mj_w (25 * x1)) + (mj_w (5 * x2)))) + x3)) < ((125 : Nat) : Int)) (some (w, f, some (.inl (f 234 (mj_w ((mj_w ((mj_w (25 * x1)) + (mj_w (5 * x2)))) + x3)).toNat)))) := by
  show mj_run yM_other w f 0 [.inr (.inl 223), .inl x1, .inl x2, .inl x3] [] = _
  refine ms_aload_n (k := 0) (p' := 1) (by decide +kernel) rfl rfl ?_
  refine ms_getr (idx := 44) (ci := 9) (k := 16) (q := 1407) (p' := 4) (by decide +kernel) rfl (k_223 hw) (r_223_16 hw) (by decide) ?_
  refine ms_bipush (n := 25) (v := 25) (p' := 6) (by decide +kernel) rfl ?_
  refine ms_iload_n (k := 1) (p' := 7) (by decide +kernel) rfl rfl ?_
  refine ms_imul (p' := 8) (by decide +kernel) rfl ?_
  refine ms_iconst (n := 5) (v := 5) (p' := 9) (by decide +kernel) rfl ?_
  refine ms_iload_n (k := 2) (p' := 10) (by decide +kernel) rfl rfl ?_
  refine ms_imul (p' := 11) (by decide +kernel) rfl ?_
  refine ms_iadd (p' := 12) (by decide +kernel) rfl ?_
  refine ms_iload_n (k := 3) (p' := 13) (by decide +kernel) rfl rfl ?_
  refine ms_iadd (p' := 14) (by decide +kernel) rfl ?_
  refine ms_iald (p' := 15) (by decide +kernel) rfl (k_234 hw) (fun hj1 => ?_)
  exact ms_iret (by decide +kernel)
theorem c_M_join {sw : Bool} {w : mj_W} (hw : wk sw w) (f : mj_F) (x1 : Int) (x2 : Int)  : mj_call yM_join w f [.inr (.inl 223), .inl x1, .inl x2] = mj_bi (mj_call yM_isTable w (mj_u f 223 0 0) [.inl x1]) (fun f1 v2 => if v2 = 0 then some (w, f1, some (.inl (-1))) else mj_bi (mj_call yM_isTable w f1 [.inl x2]) (fun f3 v4 => if ¬ v4 = 0 then mj_gd (0 ≤ (mj_w (100 + x1)) ∧ (mj_w (100 + x1)) < ((125 : Nat) : Int)) (if ¬ (f3 234 (mj_w (100 + x1)).toNat) = 1 then mj_bu (mj_call yM_loads w f3 [.inr (.inl 223), .inl x1]) (fun f6 => mj_gd (0 ≤ (mj_w (100 + x1)) ∧ (mj_w (100 + x1)) < ((125 : Nat) : Int)) (mj_gd (0 ≤ (mj_w (100 + x2)) ∧ (mj_w (100 + x2)) < ((125 : Nat) : Int)) (if ¬ (mj_w ((f6 234 (mj_w (100 + x1)).toNat) + (f6 234 (mj_w (100 + x2)).toNat))) = 0 then mj_bi (mj_call yM_becomesTable w f6 [.inr (.inl 223), .inl x1]) (fun f9 v10 => some (w, f9, some (.inl v10))) else mj_run yM_join w f6 67 [.inr (.inl 223), .inl x1, .inl x2, .inl 0, .inr (.inr (.inr 0))] []))) else mj_bu (mj_call yM_loads w f3 [.inr (.inl 223), .inl x2]) (fun f11 => mj_gd (0 ≤ (mj_w (100 + x1)) ∧ (mj_w (100 + x1)) < ((125 : Nat) : Int)) (mj_gd (0 ≤ (mj_w (100 + x2)) ∧ (mj_w (100 + x2)) < ((125 : Nat) : Int)) (if ¬ (mj_w ((f11 234 (mj_w (100 + x1)).toNat) + (f11 234 (mj_w (100 + x2)).toNat))) = 0 then mj_bi (mj_call yM_becomesTable w f11 [.inr (.inl 223), .inl x1]) (fun f14 v15 => some (w, f14, some (.inl v15))) else mj_run yM_join w f11 67 [.inr (.inl 223), .inl x1, .inl x2, .inl 0, .inr (.inr (.inr 0))] [])))) else some (w, f3, some (.inl (-1))))) := by
  show mj_run yM_join w f 0 [.inr (.inl 223), .inl x1, .inl x2, .inr (.inr (.inr 0)), .inr (.inr (.inr 0))] [] = _
  refine ms_aload_n (k := 0) (p' := 1) (by decide +kernel) rfl rfl ?_
  refine ms_iconst (n := 0) (v := 0) (p' := 2) (by decide +kernel) rfl ?_
  refine ms_puti (idx := 1) (ci := 9) (k := 0) (q := 1391) (p' := 5) (by decide +kernel) rfl (k_223 hw) ?_
  refine ms_iload_n (k := 1) (p' := 6) (by decide +kernel) rfl rfl ?_
  refine ms_stat_i (idx := 327) (cy := yM_isTable) (n := 1) (as := [.inl x1]) (rest := []) (p' := 9) (by decide +kernel) rfl rfl rfl rfl rfl (fun f1 v2 => ?_)
  refine ms_if_eq (off := 10) (t := 19) (p' := 12) (by decide +kernel) rfl (fun hc => ?_) (fun hc => ?_)
  · refine ms_iconst (n := (-1)) (v := (-1)) (p' := 20) (by decide +kernel) rfl ?_
    exact ms_iret (by decide +kernel)
  · refine ms_iload_n (k := 2) (p' := 13) (by decide +kernel) rfl rfl ?_
    refine ms_stat_i (idx := 327) (cy := yM_isTable) (n := 1) (as := [.inl x2]) (rest := []) (p' := 16) (by decide +kernel) rfl rfl rfl rfl rfl (fun f3 v4 => ?_)
    refine ms_if_ne (off := 5) (t := 21) (p' := 19) (by decide +kernel) rfl (fun hc => ?_) (fun hc => ?_)
    · refine ms_aload_n (k := 0) (p' := 22) (by decide +kernel) rfl rfl ?_
      refine ms_aload_n (k := 0) (p' := 23) (by decide +kernel) rfl rfl ?_
      refine ms_getr (idx := 44) (ci := 9) (k := 16) (q := 1407) (p' := 26) (by decide +kernel) rfl (k_223 hw) (r_223_16 hw) (by decide) ?_
      refine ms_bipush (n := 100) (v := 100) (p' := 28) (by decide +kernel) rfl ?_
      refine ms_iload_n (k := 1) (p' := 29) (by decide +kernel) rfl rfl ?_
      refine ms_iadd (p' := 30) (by decide +kernel) rfl ?_
      refine ms_iald (p' := 31) (by decide +kernel) rfl (k_234 hw) (fun hj5 => ?_)
      refine ms_iconst (n := 1) (v := 1) (p' := 32) (by decide +kernel) rfl ?_
      refine ms_icmp_ne (off := 7) (t := 39) (p' := 35) (by decide +kernel) rfl (fun hc => ?_) (fun hc => ?_)
      · refine ms_iload_n (k := 1) (p' := 40) (by decide +kernel) rfl rfl ?_
        refine ms_virt_u (idx := 340) (cy := yM_loads) (n := 1) (a := 223) (as := [.inl x1]) (rest := []) (p' := 43) (by decide +kernel) rfl rfl rfl rfl (k_223 hw) rfl (fun f6 => ?_)
        refine ms_aload_n (k := 0) (p' := 44) (by decide +kernel) rfl rfl ?_
        refine ms_getr (idx := 44) (ci := 9) (k := 16) (q := 1407) (p' := 47) (by decide +kernel) rfl (k_223 hw) (r_223_16 hw) (by decide) ?_
        refine ms_bipush (n := 100) (v := 100) (p' := 49) (by decide +kernel) rfl ?_
        refine ms_iload_n (k := 1) (p' := 50) (by decide +kernel) rfl rfl ?_
        refine ms_iadd (p' := 51) (by decide +kernel) rfl ?_
        refine ms_iald (p' := 52) (by decide +kernel) rfl (k_234 hw) (fun hj7 => ?_)
        refine ms_aload_n (k := 0) (p' := 53) (by decide +kernel) rfl rfl ?_
        refine ms_getr (idx := 44) (ci := 9) (k := 16) (q := 1407) (p' := 56) (by decide +kernel) rfl (k_223 hw) (r_223_16 hw) (by decide) ?_
        refine ms_bipush (n := 100) (v := 100) (p' := 58) (by decide +kernel) rfl ?_
        refine ms_iload_n (k := 2) (p' := 59) (by decide +kernel) rfl rfl ?_
        refine ms_iadd (p' := 60) (by decide +kernel) rfl ?_
        refine ms_iald (p' := 61) (by decide +kernel) rfl (k_234 hw) (fun hj8 => ?_)
        refine ms_iadd (p' := 62) (by decide +kernel) rfl ?_
        refine ms_if_ne (off := 70) (t := 132) (p' := 65) (by decide +kernel) rfl (fun hc => ?_) (fun hc => ?_)
        · refine ms_aload_n (k := 0) (p' := 133) (by decide +kernel) rfl rfl ?_
          refine ms_iload_n (k := 1) (p' := 134) (by decide +kernel) rfl rfl ?_
          refine ms_virt_i (idx := 333) (cy := yM_becomesTable) (n := 1) (a := 223) (as := [.inl x1]) (rest := []) (p' := 137) (by decide +kernel) rfl rfl rfl rfl (k_223 hw) rfl (fun f9 v10 => ?_)
          exact ms_iret (by decide +kernel)
        · refine ms_iconst (n := 0) (v := 0) (p' := 66) (by decide +kernel) rfl ?_
          refine ms_istore_n (k := 3) (ls' := [.inr (.inl 223), .inl x1, .inl x2, .inl 0, .inr (.inr (.inr 0))]) (p' := 67) (by decide +kernel) rfl (Nat.le_of_ble_eq_true rfl) rfl ?_
          rfl
      · refine ms_iload_n (k := 2) (p' := 36) (by decide +kernel) rfl rfl ?_
        refine ms_goto (off := 4) (p' := 40) (by decide +kernel) ?_
        refine ms_virt_u (idx := 340) (cy := yM_loads) (n := 1) (a := 223) (as := [.inl x2]) (rest := []) (p' := 43) (by decide +kernel) rfl rfl rfl rfl (k_223 hw) rfl (fun f11 => ?_)
        refine ms_aload_n (k := 0) (p' := 44) (by decide +kernel) rfl rfl ?_
        refine ms_getr (idx := 44) (ci := 9) (k := 16) (q := 1407) (p' := 47) (by decide +kernel) rfl (k_223 hw) (r_223_16 hw) (by decide) ?_
        refine ms_bipush (n := 100) (v := 100) (p' := 49) (by decide +kernel) rfl ?_
        refine ms_iload_n (k := 1) (p' := 50) (by decide +kernel) rfl rfl ?_
        refine ms_iadd (p' := 51) (by decide +kernel) rfl ?_
        refine ms_iald (p' := 52) (by decide +kernel) rfl (k_234 hw) (fun hj12 => ?_)
        refine ms_aload_n (k := 0) (p' := 53) (by decide +kernel) rfl rfl ?_
        refine ms_getr (idx := 44) (ci := 9) (k := 16) (q := 1407) (p' := 56) (by decide +kernel) rfl (k_223 hw) (r_223_16 hw) (by decide) ?_
        refine ms_bipush (n := 100) (v := 100) (p' := 58) (by decide +kernel) rfl ?_
        refine ms_iload_n (k := 2) (p' := 59) (by decide +kernel) rfl rfl ?_
        refine ms_iadd (p' := 60) (by decide +kernel) rfl ?_
        refine ms_iald (p' := 61) (by decide +kernel) rfl (k_234 hw) (fun hj13 => ?_)
        refine ms_iadd (p' := 62) (by decide +kernel) rfl ?_
        refine ms_if_ne (off := 70) (t := 132) (p' := 65) (by decide +kernel) rfl (fun hc => ?_) (fun hc => ?_)
        · refine ms_aload_n (k := 0) (p' := 133) (by decide +kernel) rfl rfl ?_
          refine ms_iload_n (k := 1) (p' := 134) (by decide +kernel) rfl rfl ?_
          refine ms_virt_i (idx := 333) (cy := yM_becomesTable) (n := 1) (a := 223) (as := [.inl x1]) (rest := []) (p' := 137) (by decide +kernel) rfl rfl rfl rfl (k_223 hw) rfl (fun f14 v15 => ?_)
          exact ms_iret (by decide +kernel)
        · refine ms_iconst (n := 0) (v := 0) (p' := 66) (by decide +kernel) rfl ?_
          refine ms_istore_n (k := 3) (ls' := [.inr (.inl 223), .inl x1, .inl x2, .inl 0, .inr (.inr (.inr 0))]) (p' := 67) (by decide +kernel) rfl (Nat.le_of_ble_eq_true rfl) rfl ?_
          rfl
    · refine ms_iconst (n := (-1)) (v := (-1)) (p' := 20) (by decide +kernel) rfl ?_
      exact ms_iret (by decide +kernel)
theorem l_M_join_67 {sw : Bool} {w : mj_W} (hw : wk sw w) (f : mj_F) (x1 : Int) (x2 : Int) (x3 : Int) (u4 : mj_V)  : mj_run yM_join w f 67 [.inr (.inl 223), .inl x1, .inl x2, .inl x3, u4] [] = if (f 223 52) ≤ x3 then mj_bi (mj_call yM_becomesTable w f [.inr (.inl 223), .inl x1]) (fun f16 v17 => some (w, f16, some (.inl v17))) else mj_run yM_join w f 78 [.inr (.inl 223), .inl x1, .inl x2, .inl x3, .inl 0] [] := by
  refine ms_iload_n (k := 3) (p' := 68) (by decide +kernel) rfl rfl ?_
  refine ms_aload_n (k := 0) (p' := 69) (by decide +kernel) rfl rfl ?_
  refine ms_geti (idx := 280) (ci := 9) (k := 52) (q := 1443) (p' := 72) (by decide +kernel) rfl (k_223 hw) ?_
  refine ms_icmp_ge (off := 60) (t := 132) (p' := 75) (by decide +kernel) rfl (fun hc => ?_) (fun hc => ?_)
  · refine ms_aload_n (k := 0) (p' := 133) (by decide +kernel) rfl rfl ?_
    refine ms_iload_n (k := 1) (p' := 134) (by decide +kernel) rfl rfl ?_
    refine ms_virt_i (idx := 333) (cy := yM_becomesTable) (n := 1) (a := 223) (as := [.inl x1]) (rest := []) (p' := 137) (by decide +kernel) rfl rfl rfl rfl (k_223 hw) rfl (fun f16 v17 => ?_)
    exact ms_iret (by decide +kernel)
  · refine ms_iconst (n := 0) (v := 0) (p' := 76) (by decide +kernel) rfl ?_
    refine ms_istore (k := 4) (ls' := [.inr (.inl 223), .inl x1, .inl x2, .inl x3, .inl 0]) (p' := 78) (by decide +kernel) rfl (Nat.le_of_ble_eq_true rfl) rfl ?_
    rfl
theorem l_M_join_78 {sw : Bool} {w : mj_W} (hw : wk sw w) (f : mj_F) (x1 : Int) (x2 : Int) (x3 : Int) (x4 : Int)  : mj_run yM_join w f 78 [.inr (.inl 223), .inl x1, .inl x2, .inl x3, .inl x4] [] = if (f 223 52) ≤ x4 then mj_run yM_join w f 67 [.inr (.inl 223), .inl x1, .inl x2, .inl (mj_w (x3 + 1)), .inl x4] [] else mj_bi (mj_call yM_other w f [.inr (.inl 223), .inl x2, .inl x3, .inl x4]) (fun f18 v19 => mj_bi (mj_call yM_get w f18 [.inr (.inl 223), .inl x3, .inl x4]) (fun f20 v21 => if v19 ≤ v21 then mj_run yM_join w f20 78 [.inr (.inl 223), .inl x1, .inl x2, .inl x3, .inl (mj_w (x4 + 1))] [] else mj_bi (mj_call yM_other w f20 [.inr (.inl 223), .inl x2, .inl x3, .inl x4]) (fun f22 v23 => mj_bu (mj_call yM_put w f22 [.inr (.inl 223), .inl x3, .inl x4, .inl v23]) (fun f24 => mj_run yM_join w f24 78 [.inr (.inl 223), .inl x1, .inl x2, .inl x3, .inl (mj_w (x4 + 1))] [])))) := by
  refine ms_iload (k := 4) (p' := 80) (by decide +kernel) rfl rfl ?_
  refine ms_aload_n (k := 0) (p' := 81) (by decide +kernel) rfl rfl ?_
  refine ms_geti (idx := 280) (ci := 9) (k := 52) (q := 1443) (p' := 84) (by decide +kernel) rfl (k_223 hw) ?_
  refine ms_icmp_ge (off := 42) (t := 126) (p' := 87) (by decide +kernel) rfl (fun hc => ?_) (fun hc => ?_)
  · refine ms_iinc (k := 3) (n := 1) (ls' := [.inr (.inl 223), .inl x1, .inl x2, .inl (mj_w (x3 + 1)), .inl x4]) (p' := 129) (by decide +kernel) rfl rfl rfl ?_
    refine ms_goto (off := (-62)) (p' := 67) (by decide +kernel) ?_
    rfl
  · refine ms_aload_n (k := 0) (p' := 88) (by decide +kernel) rfl rfl ?_
    refine ms_iload_n (k := 2) (p' := 89) (by decide +kernel) rfl rfl ?_
    refine ms_iload_n (k := 3) (p' := 90) (by decide +kernel) rfl rfl ?_
    refine ms_iload (k := 4) (p' := 92) (by decide +kernel) rfl rfl ?_
    refine ms_virt_i (idx := 352) (cy := yM_other) (n := 3) (a := 223) (as := [.inl x2, .inl x3, .inl x4]) (rest := []) (p' := 95) (by decide +kernel) rfl rfl rfl rfl (k_223 hw) rfl (fun f18 v19 => ?_)
    refine ms_aload_n (k := 0) (p' := 96) (by decide +kernel) rfl rfl ?_
    refine ms_iload_n (k := 3) (p' := 97) (by decide +kernel) rfl rfl ?_
    refine ms_iload (k := 4) (p' := 99) (by decide +kernel) rfl rfl ?_
    refine ms_virt_i (idx := 272) (cy := yM_get) (n := 2) (a := 223) (as := [.inl x3, .inl x4]) (rest := [.inl v19]) (p' := 102) (by decide +kernel) rfl rfl rfl rfl (k_223 hw) rfl (fun f20 v21 => ?_)
    refine ms_icmp_le (off := 18) (t := 120) (p' := 105) (by decide +kernel) rfl (fun hc => ?_) (fun hc => ?_)
    · refine ms_iinc (k := 4) (n := 1) (ls' := [.inr (.inl 223), .inl x1, .inl x2, .inl x3, .inl (mj_w (x4 + 1))]) (p' := 123) (by decide +kernel) rfl rfl rfl ?_
      refine ms_goto (off := (-45)) (p' := 78) (by decide +kernel) ?_
      rfl
    · refine ms_aload_n (k := 0) (p' := 106) (by decide +kernel) rfl rfl ?_
      refine ms_iload_n (k := 3) (p' := 107) (by decide +kernel) rfl rfl ?_
      refine ms_iload (k := 4) (p' := 109) (by decide +kernel) rfl rfl ?_
      refine ms_aload_n (k := 0) (p' := 110) (by decide +kernel) rfl rfl ?_
      refine ms_iload_n (k := 2) (p' := 111) (by decide +kernel) rfl rfl ?_
      refine ms_iload_n (k := 3) (p' := 112) (by decide +kernel) rfl rfl ?_
      refine ms_iload (k := 4) (p' := 114) (by decide +kernel) rfl rfl ?_
      refine ms_virt_i (idx := 352) (cy := yM_other) (n := 3) (a := 223) (as := [.inl x2, .inl x3, .inl x4]) (rest := [.inl x4, .inl x3, .inr (.inl 223)]) (p' := 117) (by decide +kernel) rfl rfl rfl rfl (k_223 hw) rfl (fun f22 v23 => ?_)
      refine ms_virt_u (idx := 276) (cy := yM_put) (n := 3) (a := 223) (as := [.inl x3, .inl x4, .inl v23]) (rest := []) (p' := 120) (by decide +kernel) rfl rfl rfl rfl (k_223 hw) rfl (fun f24 => ?_)
      refine ms_iinc (k := 4) (n := 1) (ls' := [.inr (.inl 223), .inl x1, .inl x2, .inl x3, .inl (mj_w (x4 + 1))]) (p' := 123) (by decide +kernel) rfl rfl rfl ?_
      refine ms_goto (off := (-45)) (p' := 78) (by decide +kernel) ?_
      rfl
theorem c_M_meetsTable {sw : Bool} {w : mj_W} (hw : wk sw w) (f : mj_F) (x1 : Int) (x2 : Int)  : mj_call yM_meetsTable w f [.inr (.inl 223), .inl x1, .inl x2] = mj_bu (mj_call yM_loads w f [.inr (.inl 223), .inl x1]) (fun f1 => mj_gd (0 ≤ (mj_w (100 + x2)) ∧ (mj_w (100 + x2)) < ((125 : Nat) : Int)) (if ¬ (f1 234 (mj_w (100 + x2)).toNat) = 1 then mj_gd ((mj_or (f1 223 53) 0) = 0 ∨ (mj_or (f1 223 53) 0) = 1) (mj_run yM_meetsTable w (mj_u f1 223 53 (mj_or (f1 223 53) 0)) 34 [.inr (.inl 223), .inl x1, .inl x2, .inl 0, .inr (.inr (.inr 0))] []) else mj_gd ((mj_or (f1 223 53) 1) = 0 ∨ (mj_or (f1 223 53) 1) = 1) (mj_run yM_meetsTable w (mj_u f1 223 53 (mj_or (f1 223 53) 1)) 34 [.inr (.inl 223), .inl x1, .inl x2, .inl 0, .inr (.inr (.inr 0))] []))) := by
  show mj_run yM_meetsTable w f 0 [.inr (.inl 223), .inl x1, .inl x2, .inr (.inr (.inr 0)), .inr (.inr (.inr 0))] [] = _
  refine ms_aload_n (k := 0) (p' := 1) (by decide +kernel) rfl rfl ?_
  refine ms_iload_n (k := 1) (p' := 2) (by decide +kernel) rfl rfl ?_
  refine ms_virt_u (idx := 340) (cy := yM_loads) (n := 1) (a := 223) (as := [.inl x1]) (rest := []) (p' := 5) (by decide +kernel) rfl rfl rfl rfl (k_223 hw) rfl (fun f1 => ?_)
  refine ms_aload_n (k := 0) (p' := 6) (by decide +kernel) rfl rfl ?_
  refine ms_dup_a (p' := 7) (by decide +kernel) rfl ?_
  refine ms_geti (idx := 289) (ci := 9) (k := 53) (q := 1444) (p' := 10) (by decide +kernel) rfl (k_223 hw) ?_
  refine ms_aload_n (k := 0) (p' := 11) (by decide +kernel) rfl rfl ?_
  refine ms_getr (idx := 44) (ci := 9) (k := 16) (q := 1407) (p' := 14) (by decide +kernel) rfl (k_223 hw) (r_223_16 hw) (by decide) ?_
  refine ms_bipush (n := 100) (v := 100) (p' := 16) (by decide +kernel) rfl ?_
  refine ms_iload_n (k := 2) (p' := 17) (by decide +kernel) rfl rfl ?_
  refine ms_iadd (p' := 18) (by decide +kernel) rfl ?_
  refine ms_iald (p' := 19) (by decide +kernel) rfl (k_234 hw) (fun hj2 => ?_)
  refine ms_iconst (n := 1) (v := 1) (p' := 20) (by decide +kernel) rfl ?_
  refine ms_icmp_ne (off := 7) (t := 27) (p' := 23) (by decide +kernel) rfl (fun hc => ?_) (fun hc => ?_)
  · refine ms_iconst (n := 0) (v := 0) (p' := 28) (by decide +kernel) rfl ?_
    refine ms_ior (p' := 29) (by decide +kernel) rfl ?_
    refine ms_putz (idx := 289) (ci := 9) (k := 53) (q := 1444) (p' := 32) (by decide +kernel) rfl (k_223 hw) (fun hz_ => ?_)
    refine ms_iconst (n := 0) (v := 0) (p' := 33) (by decide +kernel) rfl ?_
    refine ms_istore_n (k := 3) (ls' := [.inr (.inl 223), .inl x1, .inl x2, .inl 0, .inr (.inr (.inr 0))]) (p' := 34) (by decide +kernel) rfl (Nat.le_of_ble_eq_true rfl) rfl ?_
    rfl
  · refine ms_iconst (n := 1) (v := 1) (p' := 24) (by decide +kernel) rfl ?_
    refine ms_goto (off := 4) (p' := 28) (by decide +kernel) ?_
    refine ms_ior (p' := 29) (by decide +kernel) rfl ?_
    refine ms_putz (idx := 289) (ci := 9) (k := 53) (q := 1444) (p' := 32) (by decide +kernel) rfl (k_223 hw) (fun hz_ => ?_)
    refine ms_iconst (n := 0) (v := 0) (p' := 33) (by decide +kernel) rfl ?_
    refine ms_istore_n (k := 3) (ls' := [.inr (.inl 223), .inl x1, .inl x2, .inl 0, .inr (.inr (.inr 0))]) (p' := 34) (by decide +kernel) rfl (Nat.le_of_ble_eq_true rfl) rfl ?_
    rfl
theorem l_M_meetsTable_34 {sw : Bool} {w : mj_W} (hw : wk sw w) (f : mj_F) (x1 : Int) (x2 : Int) (x3 : Int) (u4 : mj_V)  : mj_run yM_meetsTable w f 34 [.inr (.inl 223), .inl x1, .inl x2, .inl x3, u4] [] = if (f 223 52) ≤ x3 then mj_bu (mj_call yM_closes w f [.inr (.inl 223)]) (fun f3 => some (w, f3, none)) else mj_run yM_meetsTable w f 45 [.inr (.inl 223), .inl x1, .inl x2, .inl x3, .inl 0] [] := by
  refine ms_iload_n (k := 3) (p' := 35) (by decide +kernel) rfl rfl ?_
  refine ms_aload_n (k := 0) (p' := 36) (by decide +kernel) rfl rfl ?_
  refine ms_geti (idx := 280) (ci := 9) (k := 52) (q := 1443) (p' := 39) (by decide +kernel) rfl (k_223 hw) ?_
  refine ms_icmp_ge (off := 42) (t := 81) (p' := 42) (by decide +kernel) rfl (fun hc => ?_) (fun hc => ?_)
  · refine ms_aload_n (k := 0) (p' := 82) (by decide +kernel) rfl rfl ?_
    refine ms_virt_u (idx := 300) (cy := yM_closes) (n := 0) (a := 223) (as := []) (rest := []) (p' := 85) (by decide +kernel) rfl rfl rfl rfl (k_223 hw) rfl (fun f3 => ?_)
    exact ms_vret (by decide +kernel)
  · refine ms_iconst (n := 0) (v := 0) (p' := 43) (by decide +kernel) rfl ?_
    refine ms_istore (k := 4) (ls' := [.inr (.inl 223), .inl x1, .inl x2, .inl x3, .inl 0]) (p' := 45) (by decide +kernel) rfl (Nat.le_of_ble_eq_true rfl) rfl ?_
    rfl
theorem l_M_meetsTable_45 {sw : Bool} {w : mj_W} (hw : wk sw w) (f : mj_F) (x1 : Int) (x2 : Int) (x3 : Int) (x4 : Int)  : mj_run yM_meetsTable w f 45 [.inr (.inl 223), .inl x1, .inl x2, .inl x3, .inl x4] [] = if (f 223 52) ≤ x4 then mj_run yM_meetsTable w f 34 [.inr (.inl 223), .inl x1, .inl x2, .inl (mj_w (x3 + 1)), .inl x4] [] else mj_bi (mj_call yM_other w f [.inr (.inl 223), .inl x2, .inl x3, .inl x4]) (fun f4 v5 => mj_bu (mj_call yM_tightens w f4 [.inr (.inl 223), .inl x3, .inl x4, .inl v5]) (fun f6 => mj_run yM_meetsTable w f6 45 [.inr (.inl 223), .inl x1, .inl x2, .inl x3, .inl (mj_w (x4 + 1))] [])) := by
  refine ms_iload (k := 4) (p' := 47) (by decide +kernel) rfl rfl ?_
  refine ms_aload_n (k := 0) (p' := 48) (by decide +kernel) rfl rfl ?_
  refine ms_geti (idx := 280) (ci := 9) (k := 52) (q := 1443) (p' := 51) (by decide +kernel) rfl (k_223 hw) ?_
  refine ms_icmp_ge (off := 24) (t := 75) (p' := 54) (by decide +kernel) rfl (fun hc => ?_) (fun hc => ?_)
  · refine ms_iinc (k := 3) (n := 1) (ls' := [.inr (.inl 223), .inl x1, .inl x2, .inl (mj_w (x3 + 1)), .inl x4]) (p' := 78) (by decide +kernel) rfl rfl rfl ?_
    refine ms_goto (off := (-44)) (p' := 34) (by decide +kernel) ?_
    rfl
  · refine ms_aload_n (k := 0) (p' := 55) (by decide +kernel) rfl rfl ?_
    refine ms_iload_n (k := 3) (p' := 56) (by decide +kernel) rfl rfl ?_
    refine ms_iload (k := 4) (p' := 58) (by decide +kernel) rfl rfl ?_
    refine ms_aload_n (k := 0) (p' := 59) (by decide +kernel) rfl rfl ?_
    refine ms_iload_n (k := 2) (p' := 60) (by decide +kernel) rfl rfl ?_
    refine ms_iload_n (k := 3) (p' := 61) (by decide +kernel) rfl rfl ?_
    refine ms_iload (k := 4) (p' := 63) (by decide +kernel) rfl rfl ?_
    refine ms_virt_i (idx := 352) (cy := yM_other) (n := 3) (a := 223) (as := [.inl x2, .inl x3, .inl x4]) (rest := [.inl x4, .inl x3, .inr (.inl 223)]) (p' := 66) (by decide +kernel) rfl rfl rfl rfl (k_223 hw) rfl (fun f4 v5 => ?_)
    refine ms_virt_u (idx := 286) (cy := yM_tightens) (n := 3) (a := 223) (as := [.inl x3, .inl x4, .inl v5]) (rest := []) (p' := 69) (by decide +kernel) rfl rfl rfl rfl (k_223 hw) rfl (fun f6 => ?_)
    refine ms_iinc (k := 4) (n := 1) (ls' := [.inr (.inl 223), .inl x1, .inl x2, .inl x3, .inl (mj_w (x4 + 1))]) (p' := 72) (by decide +kernel) rfl rfl rfl ?_
    refine ms_goto (off := (-27)) (p' := 45) (by decide +kernel) ?_
    rfl
theorem c_M_both {sw : Bool} {w : mj_W} (hw : wk sw w) (f : mj_F) (x1 : Int) (x2 : Int)  : mj_call yM_both w f [.inr (.inl 223), .inl x1, .inl x2] = mj_bi (mj_call yM_isTable w (mj_u f 223 0 0) [.inl x1]) (fun f1 v2 => if v2 = 0 then some (w, f1, some (.inl (-1))) else mj_bi (mj_call yM_isTable w f1 [.inl x2]) (fun f3 v4 => if ¬ v4 = 0 then mj_bu (mj_call yM_meetsTable w f3 [.inr (.inl 223), .inl x1, .inl x2]) (fun f5 => mj_bi (mj_call yM_becomesTable w f5 [.inr (.inl 223), .inl x1]) (fun f6 v7 => some (w, f6, some (.inl v7)))) else some (w, f3, some (.inl (-1))))) := by
  show mj_run yM_both w f 0 [.inr (.inl 223), .inl x1, .inl x2] [] = _
  refine ms_aload_n (k := 0) (p' := 1) (by decide +kernel) rfl rfl ?_
  refine ms_iconst (n := 0) (v := 0) (p' := 2) (by decide +kernel) rfl ?_
  refine ms_puti (idx := 1) (ci := 9) (k := 0) (q := 1391) (p' := 5) (by decide +kernel) rfl (k_223 hw) ?_
  refine ms_iload_n (k := 1) (p' := 6) (by decide +kernel) rfl rfl ?_
  refine ms_stat_i (idx := 327) (cy := yM_isTable) (n := 1) (as := [.inl x1]) (rest := []) (p' := 9) (by decide +kernel) rfl rfl rfl rfl rfl (fun f1 v2 => ?_)
  refine ms_if_eq (off := 10) (t := 19) (p' := 12) (by decide +kernel) rfl (fun hc => ?_) (fun hc => ?_)
  · refine ms_iconst (n := (-1)) (v := (-1)) (p' := 20) (by decide +kernel) rfl ?_
    exact ms_iret (by decide +kernel)
  · refine ms_iload_n (k := 2) (p' := 13) (by decide +kernel) rfl rfl ?_
    refine ms_stat_i (idx := 327) (cy := yM_isTable) (n := 1) (as := [.inl x2]) (rest := []) (p' := 16) (by decide +kernel) rfl rfl rfl rfl rfl (fun f3 v4 => ?_)
    refine ms_if_ne (off := 5) (t := 21) (p' := 19) (by decide +kernel) rfl (fun hc => ?_) (fun hc => ?_)
    · refine ms_aload_n (k := 0) (p' := 22) (by decide +kernel) rfl rfl ?_
      refine ms_iload_n (k := 1) (p' := 23) (by decide +kernel) rfl rfl ?_
      refine ms_iload_n (k := 2) (p' := 24) (by decide +kernel) rfl rfl ?_
      refine ms_virt_u (idx := 356) (cy := yM_meetsTable) (n := 2) (a := 223) (as := [.inl x1, .inl x2]) (rest := []) (p' := 27) (by decide +kernel) rfl rfl rfl rfl (k_223 hw) rfl (fun f5 => ?_)
      refine ms_aload_n (k := 0) (p' := 28) (by decide +kernel) rfl rfl ?_
      refine ms_iload_n (k := 1) (p' := 29) (by decide +kernel) rfl rfl ?_
      refine ms_virt_i (idx := 333) (cy := yM_becomesTable) (n := 1) (a := 223) (as := [.inl x1]) (rest := []) (p' := 32) (by decide +kernel) rfl rfl rfl rfl (k_223 hw) rfl (fun f6 v7 => ?_)
      exact ms_iret (by decide +kernel)
    · refine ms_iconst (n := (-1)) (v := (-1)) (p' := 20) (by decide +kernel) rfl ?_
      exact ms_iret (by decide +kernel)
theorem c_M_step {sw : Bool} {w : mj_W} (hw : wk sw w) (f : mj_F) (x1 : Int) (x2 : Int)  : mj_call yM_step w f [.inr (.inl 223), .inl x1, .inl x2] = mj_bi (mj_call yM_isTable w (mj_u f 223 0 0) [.inl x1]) (fun f1 v2 => if v2 = 0 then some (w, f1, some (.inl (-1))) else mj_bi (mj_call yM_isEdge w f1 [.inr (.inl 223), .inl x2]) (fun f3 v4 => if ¬ v4 = 0 then mj_bu (mj_call yM_loads w f3 [.inr (.inl 223), .inl x1]) (fun f5 => mj_bu (mj_call yM_steps w f5 [.inr (.inl 223), .inl x2]) (fun f6 => mj_bi (mj_call yM_becomesTable w f6 [.inr (.inl 223), .inl x1]) (fun f7 v8 => some (w, f7, some (.inl v8))))) else some (w, f3, some (.inl (-1))))) := by
  show mj_run yM_step w f 0 [.inr (.inl 223), .inl x1, .inl x2] [] = _
  refine ms_aload_n (k := 0) (p' := 1) (by decide +kernel) rfl rfl ?_
  refine ms_iconst (n := 0) (v := 0) (p' := 2) (by decide +kernel) rfl ?_
  refine ms_puti (idx := 1) (ci := 9) (k := 0) (q := 1391) (p' := 5) (by decide +kernel) rfl (k_223 hw) ?_
  refine ms_iload_n (k := 1) (p' := 6) (by decide +kernel) rfl rfl ?_
  refine ms_stat_i (idx := 327) (cy := yM_isTable) (n := 1) (as := [.inl x1]) (rest := []) (p' := 9) (by decide +kernel) rfl rfl rfl rfl rfl (fun f1 v2 => ?_)
  refine ms_if_eq (off := 11) (t := 20) (p' := 12) (by decide +kernel) rfl (fun hc => ?_) (fun hc => ?_)
  · refine ms_iconst (n := (-1)) (v := (-1)) (p' := 21) (by decide +kernel) rfl ?_
    exact ms_iret (by decide +kernel)
  · refine ms_aload_n (k := 0) (p' := 13) (by decide +kernel) rfl rfl ?_
    refine ms_iload_n (k := 2) (p' := 14) (by decide +kernel) rfl rfl ?_
    refine ms_virt_i (idx := 359) (cy := yM_isEdge) (n := 1) (a := 223) (as := [.inl x2]) (rest := []) (p' := 17) (by decide +kernel) rfl rfl rfl rfl (k_223 hw) rfl (fun f3 v4 => ?_)
    refine ms_if_ne (off := 5) (t := 22) (p' := 20) (by decide +kernel) rfl (fun hc => ?_) (fun hc => ?_)
    · refine ms_aload_n (k := 0) (p' := 23) (by decide +kernel) rfl rfl ?_
      refine ms_iload_n (k := 1) (p' := 24) (by decide +kernel) rfl rfl ?_
      refine ms_virt_u (idx := 340) (cy := yM_loads) (n := 1) (a := 223) (as := [.inl x1]) (rest := []) (p' := 27) (by decide +kernel) rfl rfl rfl rfl (k_223 hw) rfl (fun f5 => ?_)
      refine ms_aload_n (k := 0) (p' := 28) (by decide +kernel) rfl rfl ?_
      refine ms_iload_n (k := 2) (p' := 29) (by decide +kernel) rfl rfl ?_
      refine ms_virt_u (idx := 362) (cy := yM_steps) (n := 1) (a := 223) (as := [.inl x2]) (rest := []) (p' := 32) (by decide +kernel) rfl rfl rfl rfl (k_223 hw) rfl (fun f6 => ?_)
      refine ms_aload_n (k := 0) (p' := 33) (by decide +kernel) rfl rfl ?_
      refine ms_iload_n (k := 1) (p' := 34) (by decide +kernel) rfl rfl ?_
      refine ms_virt_i (idx := 333) (cy := yM_becomesTable) (n := 1) (a := 223) (as := [.inl x1]) (rest := []) (p' := 37) (by decide +kernel) rfl rfl rfl rfl (k_223 hw) rfl (fun f7 v8 => ?_)
      exact ms_iret (by decide +kernel)
    · refine ms_iconst (n := (-1)) (v := (-1)) (p' := 21) (by decide +kernel) rfl ?_
      exact ms_iret (by decide +kernel)
theorem c_M_stay {sw : Bool} {w : mj_W} (hw : wk sw w) (f : mj_F) (x1 : Int) (x2 : Int)  : mj_call yM_stay w f [.inr (.inl 223), .inl x1, .inl x2] = mj_bi (mj_call yM_isTable w (mj_u f 223 0 0) [.inl x1]) (fun f1 v2 => if v2 = 0 then some (w, f1, some (.inl (-1))) else mj_bi (mj_call yM_isPlace w f1 [.inr (.inl 223), .inl x2]) (fun f3 v4 => if ¬ v4 = 0 then mj_bu (mj_call yM_loads w f3 [.inr (.inl 223), .inl x1]) (fun f5 => mj_bu (mj_call yM_stays w f5 [.inr (.inl 223), .inl x2]) (fun f6 => mj_bi (mj_call yM_becomesTable w f6 [.inr (.inl 223), .inl x1]) (fun f7 v8 => some (w, f7, some (.inl v8))))) else some (w, f3, some (.inl (-1))))) := by
  show mj_run yM_stay w f 0 [.inr (.inl 223), .inl x1, .inl x2] [] = _
  refine ms_aload_n (k := 0) (p' := 1) (by decide +kernel) rfl rfl ?_
  refine ms_iconst (n := 0) (v := 0) (p' := 2) (by decide +kernel) rfl ?_
  refine ms_puti (idx := 1) (ci := 9) (k := 0) (q := 1391) (p' := 5) (by decide +kernel) rfl (k_223 hw) ?_
  refine ms_iload_n (k := 1) (p' := 6) (by decide +kernel) rfl rfl ?_
  refine ms_stat_i (idx := 327) (cy := yM_isTable) (n := 1) (as := [.inl x1]) (rest := []) (p' := 9) (by decide +kernel) rfl rfl rfl rfl rfl (fun f1 v2 => ?_)
  refine ms_if_eq (off := 11) (t := 20) (p' := 12) (by decide +kernel) rfl (fun hc => ?_) (fun hc => ?_)
  · refine ms_iconst (n := (-1)) (v := (-1)) (p' := 21) (by decide +kernel) rfl ?_
    exact ms_iret (by decide +kernel)
  · refine ms_aload_n (k := 0) (p' := 13) (by decide +kernel) rfl rfl ?_
    refine ms_iload_n (k := 2) (p' := 14) (by decide +kernel) rfl rfl ?_
    refine ms_virt_i (idx := 368) (cy := yM_isPlace) (n := 1) (a := 223) (as := [.inl x2]) (rest := []) (p' := 17) (by decide +kernel) rfl rfl rfl rfl (k_223 hw) rfl (fun f3 v4 => ?_)
    refine ms_if_ne (off := 5) (t := 22) (p' := 20) (by decide +kernel) rfl (fun hc => ?_) (fun hc => ?_)
    · refine ms_aload_n (k := 0) (p' := 23) (by decide +kernel) rfl rfl ?_
      refine ms_iload_n (k := 1) (p' := 24) (by decide +kernel) rfl rfl ?_
      refine ms_virt_u (idx := 340) (cy := yM_loads) (n := 1) (a := 223) (as := [.inl x1]) (rest := []) (p' := 27) (by decide +kernel) rfl rfl rfl rfl (k_223 hw) rfl (fun f5 => ?_)
      refine ms_aload_n (k := 0) (p' := 28) (by decide +kernel) rfl rfl ?_
      refine ms_iload_n (k := 2) (p' := 29) (by decide +kernel) rfl rfl ?_
      refine ms_virt_u (idx := 312) (cy := yM_stays) (n := 1) (a := 223) (as := [.inl x2]) (rest := []) (p' := 32) (by decide +kernel) rfl rfl rfl rfl (k_223 hw) rfl (fun f6 => ?_)
      refine ms_aload_n (k := 0) (p' := 33) (by decide +kernel) rfl rfl ?_
      refine ms_iload_n (k := 1) (p' := 34) (by decide +kernel) rfl rfl ?_
      refine ms_virt_i (idx := 333) (cy := yM_becomesTable) (n := 1) (a := 223) (as := [.inl x1]) (rest := []) (p' := 37) (by decide +kernel) rfl rfl rfl rfl (k_223 hw) rfl (fun f7 v8 => ?_)
      exact ms_iret (by decide +kernel)
    · refine ms_iconst (n := (-1)) (v := (-1)) (p' := 21) (by decide +kernel) rfl ?_
      exact ms_iret (by decide +kernel)
theorem c_M_rough {sw : Bool} {w : mj_W} (hw : wk sw w) (f : mj_F) (x1 : Int)  : mj_call yM_rough w f [.inr (.inl 223), .inl x1] = mj_bi (mj_call yM_isTable w (mj_u f 223 0 0) [.inl x1]) (fun f1 v2 => if ¬ v2 = 0 then mj_bu (mj_call yM_loads w f1 [.inr (.inl 223), .inl x1]) (fun f3 => mj_bu (mj_call yM_roughens w f3 [.inr (.inl 223)]) (fun f4 => mj_bi (mj_call yM_becomesTable w f4 [.inr (.inl 223), .inl x1]) (fun f5 v6 => some (w, f5, some (.inl v6))))) else some (w, f1, some (.inl (-1)))) := by
  show mj_run yM_rough w f 0 [.inr (.inl 223), .inl x1] [] = _
  refine ms_aload_n (k := 0) (p' := 1) (by decide +kernel) rfl rfl ?_
  refine ms_iconst (n := 0) (v := 0) (p' := 2) (by decide +kernel) rfl ?_
  refine ms_puti (idx := 1) (ci := 9) (k := 0) (q := 1391) (p' := 5) (by decide +kernel) rfl (k_223 hw) ?_
  refine ms_iload_n (k := 1) (p' := 6) (by decide +kernel) rfl rfl ?_
  refine ms_stat_i (idx := 327) (cy := yM_isTable) (n := 1) (as := [.inl x1]) (rest := []) (p' := 9) (by decide +kernel) rfl rfl rfl rfl rfl (fun f1 v2 => ?_)
  refine ms_if_ne (off := 5) (t := 14) (p' := 12) (by decide +kernel) rfl (fun hc => ?_) (fun hc => ?_)
  · refine ms_aload_n (k := 0) (p' := 15) (by decide +kernel) rfl rfl ?_
    refine ms_iload_n (k := 1) (p' := 16) (by decide +kernel) rfl rfl ?_
    refine ms_virt_u (idx := 340) (cy := yM_loads) (n := 1) (a := 223) (as := [.inl x1]) (rest := []) (p' := 19) (by decide +kernel) rfl rfl rfl rfl (k_223 hw) rfl (fun f3 => ?_)
    refine ms_aload_n (k := 0) (p' := 20) (by decide +kernel) rfl rfl ?_
    refine ms_virt_u (idx := 371) (cy := yM_roughens) (n := 0) (a := 223) (as := []) (rest := []) (p' := 23) (by decide +kernel) rfl rfl rfl rfl (k_223 hw) rfl (fun f4 => ?_)
    refine ms_aload_n (k := 0) (p' := 24) (by decide +kernel) rfl rfl ?_
    refine ms_iload_n (k := 1) (p' := 25) (by decide +kernel) rfl rfl ?_
    refine ms_virt_i (idx := 333) (cy := yM_becomesTable) (n := 1) (a := 223) (as := [.inl x1]) (rest := []) (p' := 28) (by decide +kernel) rfl rfl rfl rfl (k_223 hw) rfl (fun f5 v6 => ?_)
    exact ms_iret (by decide +kernel)
  · refine ms_iconst (n := (-1)) (v := (-1)) (p' := 13) (by decide +kernel) rfl ?_
    exact ms_iret (by decide +kernel)
theorem c_M_take {sw : Bool} {w : mj_W} (hw : wk sw w) (f : mj_F) (x1 : Int) (x2 : Int)  : mj_call yM_take w f [.inr (.inl 223), .inl x1, .inl x2] = mj_bi (mj_call yM_isTable w (mj_u f 223 0 0) [.inl x1]) (fun f1 v2 => if v2 = 0 then some (w, f1, some (.inl (-1))) else mj_bi (mj_call yM_isIn w f1 [.inl x2, .inl 0, .inl (mj_w ((f1 223 23) - 1))]) (fun f3 v4 => if ¬ v4 = 0 then mj_bu (mj_call yM_loadsNode w f3 [.inr (.inl 223), .inl x2]) (fun f5 => mj_bi (mj_call yM_becomesTable w f5 [.inr (.inl 223), .inl x1]) (fun f6 v7 => some (w, f6, some (.inl v7)))) else some (w, f3, some (.inl (-1))))) := by
  show mj_run yM_take w f 0 [.inr (.inl 223), .inl x1, .inl x2] [] = _
  refine ms_aload_n (k := 0) (p' := 1) (by decide +kernel) rfl rfl ?_
  refine ms_iconst (n := 0) (v := 0) (p' := 2) (by decide +kernel) rfl ?_
  refine ms_puti (idx := 1) (ci := 9) (k := 0) (q := 1391) (p' := 5) (by decide +kernel) rfl (k_223 hw) ?_
  refine ms_iload_n (k := 1) (p' := 6) (by decide +kernel) rfl rfl ?_
  refine ms_stat_i (idx := 327) (cy := yM_isTable) (n := 1) (as := [.inl x1]) (rest := []) (p' := 9) (by decide +kernel) rfl rfl rfl rfl rfl (fun f1 v2 => ?_)
  refine ms_if_eq (off := 17) (t := 26) (p' := 12) (by decide +kernel) rfl (fun hc => ?_) (fun hc => ?_)
  · refine ms_iconst (n := (-1)) (v := (-1)) (p' := 27) (by decide +kernel) rfl ?_
    exact ms_iret (by decide +kernel)
  · refine ms_iload_n (k := 2) (p' := 13) (by decide +kernel) rfl rfl ?_
    refine ms_iconst (n := 0) (v := 0) (p' := 14) (by decide +kernel) rfl ?_
    refine ms_aload_n (k := 0) (p' := 15) (by decide +kernel) rfl rfl ?_
    refine ms_geti (idx := 374) (ci := 9) (k := 23) (q := 1414) (p' := 18) (by decide +kernel) rfl (k_223 hw) ?_
    refine ms_iconst (n := 1) (v := 1) (p' := 19) (by decide +kernel) rfl ?_
    refine ms_isub (p' := 20) (by decide +kernel) rfl ?_
    refine ms_stat_i (idx := 158) (cy := yM_isIn) (n := 3) (as := [.inl x2, .inl 0, .inl (mj_w ((f1 223 23) - 1))]) (rest := []) (p' := 23) (by decide +kernel) rfl rfl rfl rfl rfl (fun f3 v4 => ?_)
    refine ms_if_ne (off := 5) (t := 28) (p' := 26) (by decide +kernel) rfl (fun hc => ?_) (fun hc => ?_)
    · refine ms_aload_n (k := 0) (p' := 29) (by decide +kernel) rfl rfl ?_
      refine ms_iload_n (k := 2) (p' := 30) (by decide +kernel) rfl rfl ?_
      refine ms_virt_u (idx := 377) (cy := yM_loadsNode) (n := 1) (a := 223) (as := [.inl x2]) (rest := []) (p' := 33) (by decide +kernel) rfl rfl rfl rfl (k_223 hw) rfl (fun f5 => ?_)
      refine ms_aload_n (k := 0) (p' := 34) (by decide +kernel) rfl rfl ?_
      refine ms_iload_n (k := 1) (p' := 35) (by decide +kernel) rfl rfl ?_
      refine ms_virt_i (idx := 333) (cy := yM_becomesTable) (n := 1) (a := 223) (as := [.inl x1]) (rest := []) (p' := 38) (by decide +kernel) rfl rfl rfl rfl (k_223 hw) rfl (fun f6 v7 => ?_)
      exact ms_iret (by decide +kernel)
    · refine ms_iconst (n := (-1)) (v := (-1)) (p' := 27) (by decide +kernel) rfl ?_
      exact ms_iret (by decide +kernel)
theorem c_M_undo {sw : Bool} {w : mj_W} (hw : wk sw w) (f : mj_F)   : mj_call yM_undo w f [.inr (.inl 223)] = if ¬ (mj_u f 223 0 0 223 18) = 0 then mj_run yM_undo w (mj_u (mj_u f 223 0 0) 223 18 (mj_w ((mj_u f 223 0 0 223 18) - 1))) 26 [.inr (.inl 223), .inl 0] [] else some (w, (mj_u f 223 0 0), some (.inl (-1))) := by
  show mj_run yM_undo w f 0 [.inr (.inl 223), .inr (.inr (.inr 0))] [] = _
  refine ms_aload_n (k := 0) (p' := 1) (by decide +kernel) rfl rfl ?_
  refine ms_iconst (n := 0) (v := 0) (p' := 2) (by decide +kernel) rfl ?_
  refine ms_puti (idx := 1) (ci := 9) (k := 0) (q := 1391) (p' := 5) (by decide +kernel) rfl (k_223 hw) ?_
  refine ms_aload_n (k := 0) (p' := 6) (by decide +kernel) rfl rfl ?_
  refine ms_geti (idx := 261) (ci := 9) (k := 18) (q := 1409) (p' := 9) (by decide +kernel) rfl (k_223 hw) ?_
  refine ms_if_ne (off := 5) (t := 14) (p' := 12) (by decide +kernel) rfl (fun hc => ?_) (fun hc => ?_)
  · refine ms_aload_n (k := 0) (p' := 15) (by decide +kernel) rfl rfl ?_
    refine ms_dup_a (p' := 16) (by decide +kernel) rfl ?_
    refine ms_geti (idx := 261) (ci := 9) (k := 18) (q := 1409) (p' := 19) (by decide +kernel) rfl (k_223 hw) ?_
    refine ms_iconst (n := 1) (v := 1) (p' := 20) (by decide +kernel) rfl ?_
    refine ms_isub (p' := 21) (by decide +kernel) rfl ?_
    refine ms_puti (idx := 261) (ci := 9) (k := 18) (q := 1409) (p' := 24) (by decide +kernel) rfl (k_223 hw) ?_
    refine ms_iconst (n := 0) (v := 0) (p' := 25) (by decide +kernel) rfl ?_
    refine ms_istore_n (k := 1) (ls' := [.inr (.inl 223), .inl 0]) (p' := 26) (by decide +kernel) rfl (Nat.le_of_ble_eq_true rfl) rfl ?_
    rfl
  · refine ms_iconst (n := (-1)) (v := (-1)) (p' := 13) (by decide +kernel) rfl ?_
    exact ms_iret (by decide +kernel)
theorem l_M_undo_26 {sw : Bool} {w : mj_W} (hw : wk sw w) (f : mj_F) (x1 : Int)  : mj_run yM_undo w f 26 [.inr (.inl 223), .inl x1] [] = if 125 ≤ x1 then some (w, f, some (.inl (f 223 18))) else mj_gd (0 ≤ (mj_w ((mj_w (125 * (f 223 18))) + x1)) ∧ (mj_w ((mj_w (125 * (f 223 18))) + x1)) < ((2000 : Nat) : Int)) (mj_gd (0 ≤ x1 ∧ x1 < ((125 : Nat) : Int)) (mj_run yM_undo w (mj_u f 234 x1.toNat (f 235 (mj_w ((mj_w (125 * (f 223 18))) + x1)).toNat)) 26 [.inr (.inl 223), .inl (mj_w (x1 + 1))] [])) := by
  refine ms_iload_n (k := 1) (p' := 27) (by decide +kernel) rfl rfl ?_
  refine ms_bipush (n := 125) (v := 125) (p' := 29) (by decide +kernel) rfl ?_
  refine ms_icmp_ge (off := 29) (t := 58) (p' := 32) (by decide +kernel) rfl (fun hc => ?_) (fun hc => ?_)
  · refine ms_aload_n (k := 0) (p' := 59) (by decide +kernel) rfl rfl ?_
    refine ms_geti (idx := 261) (ci := 9) (k := 18) (q := 1409) (p' := 62) (by decide +kernel) rfl (k_223 hw) ?_
    exact ms_iret (by decide +kernel)
  · refine ms_aload_n (k := 0) (p' := 33) (by decide +kernel) rfl rfl ?_
    refine ms_getr (idx := 44) (ci := 9) (k := 16) (q := 1407) (p' := 36) (by decide +kernel) rfl (k_223 hw) (r_223_16 hw) (by decide) ?_
    refine ms_iload_n (k := 1) (p' := 37) (by decide +kernel) rfl rfl ?_
    refine ms_aload_n (k := 0) (p' := 38) (by decide +kernel) rfl rfl ?_
    refine ms_getr (idx := 47) (ci := 9) (k := 17) (q := 1408) (p' := 41) (by decide +kernel) rfl (k_223 hw) (r_223_17 hw) (by decide) ?_
    refine ms_bipush (n := 125) (v := 125) (p' := 43) (by decide +kernel) rfl ?_
    refine ms_aload_n (k := 0) (p' := 44) (by decide +kernel) rfl rfl ?_
    refine ms_geti (idx := 261) (ci := 9) (k := 18) (q := 1409) (p' := 47) (by decide +kernel) rfl (k_223 hw) ?_
    refine ms_imul (p' := 48) (by decide +kernel) rfl ?_
    refine ms_iload_n (k := 1) (p' := 49) (by decide +kernel) rfl rfl ?_
    refine ms_iadd (p' := 50) (by decide +kernel) rfl ?_
    refine ms_iald (p' := 51) (by decide +kernel) rfl (k_235 hw) (fun hj1 => ?_)
    refine ms_iast (p' := 52) (by decide +kernel) rfl (k_234 hw) (fun hj2 => ?_)
    refine ms_iinc (k := 1) (n := 1) (ls' := [.inr (.inl 223), .inl (mj_w (x1 + 1))]) (p' := 55) (by decide +kernel) rfl rfl rfl ?_
    refine ms_goto (off := (-29)) (p' := 26) (by decide +kernel) ?_
    rfl
theorem c_M_told {sw : Bool} {w : mj_W} (hw : wk sw w) (f : mj_F) (x1 : Int) (x2 : Int)  : mj_call yM_told w f [.inr (.inl 223), .inl x1, .inl x2] = if ¬ x2 = 0 then if x1 < 1000000 then some (w, f, some (.inl (mj_and x1 1))) else some (w, f, some (.inl 0)) else if x1 < 1000000 then mj_bi (mj_call yM_numberOf w f [.inl x1]) (fun f1 v2 => some (w, f1, some (.inl v2))) else some (w, f, some (.inl 1000)) := by
  show mj_run yM_told w f 0 [.inr (.inl 223), .inl x1, .inl x2] [] = _
  refine ms_iload_n (k := 2) (p' := 1) (by decide +kernel) rfl rfl ?_
  refine ms_if_ne (off := 23) (t := 24) (p' := 4) (by decide +kernel) rfl (fun hc => ?_) (fun hc => ?_)
  · refine ms_iload_n (k := 1) (p' := 25) (by decide +kernel) rfl rfl ?_
    refine ms_ldc_w (idx := 271) (v := 1000000) (p' := 28) (by decide +kernel) rfl ?_
    refine ms_icmp_lt (off := 7) (t := 35) (p' := 31) (by decide +kernel) rfl (fun hc => ?_) (fun hc => ?_)
    · refine ms_iload_n (k := 1) (p' := 36) (by decide +kernel) rfl rfl ?_
      refine ms_iconst (n := 1) (v := 1) (p' := 37) (by decide +kernel) rfl ?_
      refine ms_iand (p' := 38) (by decide +kernel) rfl ?_
      exact ms_iret (by decide +kernel)
    · refine ms_iconst (n := 0) (v := 0) (p' := 32) (by decide +kernel) rfl ?_
      refine ms_goto (off := 6) (p' := 38) (by decide +kernel) ?_
      exact ms_iret (by decide +kernel)
  · refine ms_iload_n (k := 1) (p' := 5) (by decide +kernel) rfl rfl ?_
    refine ms_ldc_w (idx := 271) (v := 1000000) (p' := 8) (by decide +kernel) rfl ?_
    refine ms_icmp_lt (off := 9) (t := 17) (p' := 11) (by decide +kernel) rfl (fun hc => ?_) (fun hc => ?_)
    · refine ms_iload_n (k := 1) (p' := 18) (by decide +kernel) rfl rfl ?_
      refine ms_stat_i (idx := 318) (cy := yM_numberOf) (n := 1) (as := [.inl x1]) (rest := []) (p' := 21) (by decide +kernel) rfl rfl rfl rfl rfl (fun f1 v2 => ?_)
      refine ms_goto (off := 17) (p' := 38) (by decide +kernel) ?_
      exact ms_iret (by decide +kernel)
    · refine ms_sipush (n := 1000) (v := 1000) (p' := 14) (by decide +kernel) rfl ?_
      refine ms_goto (off := 24) (p' := 38) (by decide +kernel) ?_
      exact ms_iret (by decide +kernel)
theorem c_M_bound {sw : Bool} {w : mj_W} (hw : wk sw w) (f : mj_F) (x1 : Int) (x2 : Int) (x3 : Int) (x4 : Int)  : mj_call yM_bound w f [.inr (.inl 223), .inl x1, .inl x2, .inl x3, .inl x4] = mj_bi (mj_call yM_isTable w (mj_u f 223 0 0) [.inl x1]) (fun f1 v2 => if v2 = 0 then some (w, f1, some (.inl (-2000))) else mj_bi (mj_call yM_arePair w f1 [.inr (.inl 223), .inl x2, .inl x3]) (fun f3 v4 => if v4 = 0 then some (w, f3, some (.inl (-2000))) else mj_bi (mj_call yM_isTwo w f3 [.inl x4]) (fun f5 v6 => if ¬ v6 = 0 then mj_bu (mj_call yM_loads w f5 [.inr (.inl 223), .inl x1]) (fun f7 => if (f7 223 53) = 0 then mj_bi (mj_call yM_get w f7 [.inr (.inl 223), .inl (mj_w (x2 + 1)), .inl (mj_w (x3 + 1))]) (fun f8 v9 => mj_bi (mj_call yM_told w f8 [.inr (.inl 223), .inl v9, .inl x4]) (fun f10 v11 => some (w, f10, some (.inl v11)))) else some (w, f7, some (.inl (-1000)))) else some (w, f5, some (.inl (-2000)))))) := by
  show mj_run yM_bound w f 0 [.inr (.inl 223), .inl x1, .inl x2, .inl x3, .inl x4] [] = _
  refine ms_aload_n (k := 0) (p' := 1) (by decide +kernel) rfl rfl ?_
  refine ms_iconst (n := 0) (v := 0) (p' := 2) (by decide +kernel) rfl ?_
  refine ms_puti (idx := 1) (ci := 9) (k := 0) (q := 1391) (p' := 5) (by decide +kernel) rfl (k_223 hw) ?_
  refine ms_iload_n (k := 1) (p' := 6) (by decide +kernel) rfl rfl ?_
  refine ms_stat_i (idx := 327) (cy := yM_isTable) (n := 1) (as := [.inl x1]) (rest := []) (p' := 9) (by decide +kernel) rfl rfl rfl rfl rfl (fun f1 v2 => ?_)
  refine ms_if_eq (off := 20) (t := 29) (p' := 12) (by decide +kernel) rfl (fun hc => ?_) (fun hc => ?_)
  · refine ms_sipush (n := (-2000)) (v := (-2000)) (p' := 32) (by decide +kernel) rfl ?_
    exact ms_iret (by decide +kernel)
  · refine ms_aload_n (k := 0) (p' := 13) (by decide +kernel) rfl rfl ?_
    refine ms_iload_n (k := 2) (p' := 14) (by decide +kernel) rfl rfl ?_
    refine ms_iload_n (k := 3) (p' := 15) (by decide +kernel) rfl rfl ?_
    refine ms_virt_i (idx := 336) (cy := yM_arePair) (n := 2) (a := 223) (as := [.inl x2, .inl x3]) (rest := []) (p' := 18) (by decide +kernel) rfl rfl rfl rfl (k_223 hw) rfl (fun f3 v4 => ?_)
    refine ms_if_eq (off := 11) (t := 29) (p' := 21) (by decide +kernel) rfl (fun hc => ?_) (fun hc => ?_)
    · refine ms_sipush (n := (-2000)) (v := (-2000)) (p' := 32) (by decide +kernel) rfl ?_
      exact ms_iret (by decide +kernel)
    · refine ms_iload (k := 4) (p' := 23) (by decide +kernel) rfl rfl ?_
      refine ms_stat_i (idx := 343) (cy := yM_isTwo) (n := 1) (as := [.inl x4]) (rest := []) (p' := 26) (by decide +kernel) rfl rfl rfl rfl rfl (fun f5 v6 => ?_)
      refine ms_if_ne (off := 7) (t := 33) (p' := 29) (by decide +kernel) rfl (fun hc => ?_) (fun hc => ?_)
      · refine ms_aload_n (k := 0) (p' := 34) (by decide +kernel) rfl rfl ?_
        refine ms_iload_n (k := 1) (p' := 35) (by decide +kernel) rfl rfl ?_
        refine ms_virt_u (idx := 340) (cy := yM_loads) (n := 1) (a := 223) (as := [.inl x1]) (rest := []) (p' := 38) (by decide +kernel) rfl rfl rfl rfl (k_223 hw) rfl (fun f7 => ?_)
        refine ms_aload_n (k := 0) (p' := 39) (by decide +kernel) rfl rfl ?_
        refine ms_geti (idx := 289) (ci := 9) (k := 53) (q := 1444) (p' := 42) (by decide +kernel) rfl (k_223 hw) ?_
        refine ms_if_eq (off := 9) (t := 51) (p' := 45) (by decide +kernel) rfl (fun hc => ?_) (fun hc => ?_)
        · refine ms_aload_n (k := 0) (p' := 52) (by decide +kernel) rfl rfl ?_
          refine ms_aload_n (k := 0) (p' := 53) (by decide +kernel) rfl rfl ?_
          refine ms_iload_n (k := 2) (p' := 54) (by decide +kernel) rfl rfl ?_
          refine ms_iconst (n := 1) (v := 1) (p' := 55) (by decide +kernel) rfl ?_
          refine ms_iadd (p' := 56) (by decide +kernel) rfl ?_
          refine ms_iload_n (k := 3) (p' := 57) (by decide +kernel) rfl rfl ?_
          refine ms_iconst (n := 1) (v := 1) (p' := 58) (by decide +kernel) rfl ?_
          refine ms_iadd (p' := 59) (by decide +kernel) rfl ?_
          refine ms_virt_i (idx := 272) (cy := yM_get) (n := 2) (a := 223) (as := [.inl (mj_w (x2 + 1)), .inl (mj_w (x3 + 1))]) (rest := [.inr (.inl 223)]) (p' := 62) (by decide +kernel) rfl rfl rfl rfl (k_223 hw) rfl (fun f8 v9 => ?_)
          refine ms_iload (k := 4) (p' := 64) (by decide +kernel) rfl rfl ?_
          refine ms_virt_i (idx := 380) (cy := yM_told) (n := 2) (a := 223) (as := [.inl v9, .inl x4]) (rest := []) (p' := 67) (by decide +kernel) rfl rfl rfl rfl (k_223 hw) rfl (fun f10 v11 => ?_)
          exact ms_iret (by decide +kernel)
        · refine ms_sipush (n := (-1000)) (v := (-1000)) (p' := 48) (by decide +kernel) rfl ?_
          refine ms_goto (off := 19) (p' := 67) (by decide +kernel) ?_
          exact ms_iret (by decide +kernel)
      · refine ms_sipush (n := (-2000)) (v := (-2000)) (p' := 32) (by decide +kernel) rfl ?_
        exact ms_iret (by decide +kernel)
theorem c_M_empty {sw : Bool} {w : mj_W} (hw : wk sw w) (f : mj_F) (x1 : Int)  : mj_call yM_empty w f [.inr (.inl 223), .inl x1] = mj_bi (mj_call yM_isTable w (mj_u f 223 0 0) [.inl x1]) (fun f1 v2 => if v2 = 0 then some (w, f1, some (.inl (-1))) else mj_gd (0 ≤ (mj_w (100 + x1)) ∧ (mj_w (100 + x1)) < ((125 : Nat) : Int)) (some (w, f1, some (.inl (f1 234 (mj_w (100 + x1)).toNat))))) := by
  show mj_run yM_empty w f 0 [.inr (.inl 223), .inl x1] [] = _
  refine ms_aload_n (k := 0) (p' := 1) (by decide +kernel) rfl rfl ?_
  refine ms_iconst (n := 0) (v := 0) (p' := 2) (by decide +kernel) rfl ?_
  refine ms_puti (idx := 1) (ci := 9) (k := 0) (q := 1391) (p' := 5) (by decide +kernel) rfl (k_223 hw) ?_
  refine ms_iload_n (k := 1) (p' := 6) (by decide +kernel) rfl rfl ?_
  refine ms_stat_i (idx := 327) (cy := yM_isTable) (n := 1) (as := [.inl x1]) (rest := []) (p' := 9) (by decide +kernel) rfl rfl rfl rfl rfl (fun f1 v2 => ?_)
  refine ms_if_eq (off := 15) (t := 24) (p' := 12) (by decide +kernel) rfl (fun hc => ?_) (fun hc => ?_)
  · refine ms_iconst (n := (-1)) (v := (-1)) (p' := 25) (by decide +kernel) rfl ?_
    exact ms_iret (by decide +kernel)
  · refine ms_aload_n (k := 0) (p' := 13) (by decide +kernel) rfl rfl ?_
    refine ms_getr (idx := 44) (ci := 9) (k := 16) (q := 1407) (p' := 16) (by decide +kernel) rfl (k_223 hw) (r_223_16 hw) (by decide) ?_
    refine ms_bipush (n := 100) (v := 100) (p' := 18) (by decide +kernel) rfl ?_
    refine ms_iload_n (k := 1) (p' := 19) (by decide +kernel) rfl rfl ?_
    refine ms_iadd (p' := 20) (by decide +kernel) rfl ?_
    refine ms_iald (p' := 21) (by decide +kernel) rfl (k_234 hw) (fun hj3 => ?_)
    refine ms_goto (off := 4) (p' := 25) (by decide +kernel) ?_
    exact ms_iret (by decide +kernel)
theorem c_M_within {sw : Bool} {w : mj_W} (hw : wk sw w) (f : mj_F) (x1 : Int) (x2 : Int)  : mj_call yM_within w f [.inr (.inl 223), .inl x1, .inl x2] = mj_bi (mj_call yM_isTable w (mj_u f 223 0 0) [.inl x1]) (fun f1 v2 => if v2 = 0 then some (w, f1, some (.inl (-1))) else mj_bi (mj_call yM_isTable w f1 [.inl x2]) (fun f3 v4 => if ¬ v4 = 0 then mj_gd (0 ≤ (mj_w (100 + x2)) ∧ (mj_w (100 + x2)) < ((125 : Nat) : Int)) (if ¬ (f3 234 (mj_w (100 + x2)).toNat) = 1 then mj_bu (mj_call yM_loads w f3 [.inr (.inl 223), .inl x2]) (fun f6 => mj_gd (0 ≤ (mj_w (100 + x1)) ∧ (mj_w (100 + x1)) < ((125 : Nat) : Int)) (if ¬ (f6 234 (mj_w (100 + x1)).toNat) = 0 then some (w, f6, some (.inl 0)) else mj_bi (mj_call yM_isInside w f6 [.inr (.inl 223), .inr (.inl 234), .inl (mj_w (25 * x1))]) (fun f8 v9 => if v9 = 0 then some (w, f8, some (.inl 0)) else some (w, f8, some (.inl 1))))) else some (w, f3, some (.inl 1))) else some (w, f3, some (.inl (-1))))) := by
  show mj_run yM_within w f 0 [.inr (.inl 223), .inl x1, .inl x2] [] = _
  refine ms_aload_n (k := 0) (p' := 1) (by decide +kernel) rfl rfl ?_
  refine ms_iconst (n := 0) (v := 0) (p' := 2) (by decide +kernel) rfl ?_
  refine ms_puti (idx := 1) (ci := 9) (k := 0) (q := 1391) (p' := 5) (by decide +kernel) rfl (k_223 hw) ?_
  refine ms_iload_n (k := 1) (p' := 6) (by decide +kernel) rfl rfl ?_
  refine ms_stat_i (idx := 327) (cy := yM_isTable) (n := 1) (as := [.inl x1]) (rest := []) (p' := 9) (by decide +kernel) rfl rfl rfl rfl rfl (fun f1 v2 => ?_)
  refine ms_if_eq (off := 10) (t := 19) (p' := 12) (by decide +kernel) rfl (fun hc => ?_) (fun hc => ?_)
  · refine ms_iconst (n := (-1)) (v := (-1)) (p' := 20) (by decide +kernel) rfl ?_
    exact ms_iret (by decide +kernel)
  · refine ms_iload_n (k := 2) (p' := 13) (by decide +kernel) rfl rfl ?_
    refine ms_stat_i (idx := 327) (cy := yM_isTable) (n := 1) (as := [.inl x2]) (rest := []) (p' := 16) (by decide +kernel) rfl rfl rfl rfl rfl (fun f3 v4 => ?_)
    refine ms_if_ne (off := 5) (t := 21) (p' := 19) (by decide +kernel) rfl (fun hc => ?_) (fun hc => ?_)
    · refine ms_aload_n (k := 0) (p' := 22) (by decide +kernel) rfl rfl ?_
      refine ms_getr (idx := 44) (ci := 9) (k := 16) (q := 1407) (p' := 25) (by decide +kernel) rfl (k_223 hw) (r_223_16 hw) (by decide) ?_
      refine ms_bipush (n := 100) (v := 100) (p' := 27) (by decide +kernel) rfl ?_
      refine ms_iload_n (k := 2) (p' := 28) (by decide +kernel) rfl rfl ?_
      refine ms_iadd (p' := 29) (by decide +kernel) rfl ?_
      refine ms_iald (p' := 30) (by decide +kernel) rfl (k_234 hw) (fun hj5 => ?_)
      refine ms_iconst (n := 1) (v := 1) (p' := 31) (by decide +kernel) rfl ?_
      refine ms_icmp_ne (off := 5) (t := 36) (p' := 34) (by decide +kernel) rfl (fun hc => ?_) (fun hc => ?_)
      · refine ms_aload_n (k := 0) (p' := 37) (by decide +kernel) rfl rfl ?_
        refine ms_iload_n (k := 2) (p' := 38) (by decide +kernel) rfl rfl ?_
        refine ms_virt_u (idx := 340) (cy := yM_loads) (n := 1) (a := 223) (as := [.inl x2]) (rest := []) (p' := 41) (by decide +kernel) rfl rfl rfl rfl (k_223 hw) rfl (fun f6 => ?_)
        refine ms_aload_n (k := 0) (p' := 42) (by decide +kernel) rfl rfl ?_
        refine ms_getr (idx := 44) (ci := 9) (k := 16) (q := 1407) (p' := 45) (by decide +kernel) rfl (k_223 hw) (r_223_16 hw) (by decide) ?_
        refine ms_bipush (n := 100) (v := 100) (p' := 47) (by decide +kernel) rfl ?_
        refine ms_iload_n (k := 1) (p' := 48) (by decide +kernel) rfl rfl ?_
        refine ms_iadd (p' := 49) (by decide +kernel) rfl ?_
        refine ms_iald (p' := 50) (by decide +kernel) rfl (k_234 hw) (fun hj7 => ?_)
        refine ms_if_ne (off := 22) (t := 72) (p' := 53) (by decide +kernel) rfl (fun hc => ?_) (fun hc => ?_)
        · refine ms_iconst (n := 0) (v := 0) (p' := 73) (by decide +kernel) rfl ?_
          exact ms_iret (by decide +kernel)
        · refine ms_aload_n (k := 0) (p' := 54) (by decide +kernel) rfl rfl ?_
          refine ms_aload_n (k := 0) (p' := 55) (by decide +kernel) rfl rfl ?_
          refine ms_getr (idx := 44) (ci := 9) (k := 16) (q := 1407) (p' := 58) (by decide +kernel) rfl (k_223 hw) (r_223_16 hw) (by decide) ?_
          refine ms_bipush (n := 25) (v := 25) (p' := 60) (by decide +kernel) rfl ?_
          refine ms_iload_n (k := 1) (p' := 61) (by decide +kernel) rfl rfl ?_
          refine ms_imul (p' := 62) (by decide +kernel) rfl ?_
          refine ms_virt_i (idx := 383) (cy := yM_isInside) (n := 2) (a := 223) (as := [.inr (.inl 234), .inl (mj_w (25 * x1))]) (rest := []) (p' := 65) (by decide +kernel) rfl rfl rfl rfl (k_223 hw) rfl (fun f8 v9 => ?_)
          refine ms_if_eq (off := 7) (t := 72) (p' := 68) (by decide +kernel) rfl (fun hc => ?_) (fun hc => ?_)
          · refine ms_iconst (n := 0) (v := 0) (p' := 73) (by decide +kernel) rfl ?_
            exact ms_iret (by decide +kernel)
          · refine ms_iconst (n := 1) (v := 1) (p' := 69) (by decide +kernel) rfl ?_
            refine ms_goto (off := 4) (p' := 73) (by decide +kernel) ?_
            exact ms_iret (by decide +kernel)
      · refine ms_iconst (n := 1) (v := 1) (p' := 35) (by decide +kernel) rfl ?_
        exact ms_iret (by decide +kernel)
    · refine ms_iconst (n := (-1)) (v := (-1)) (p' := 20) (by decide +kernel) rfl ?_
      exact ms_iret (by decide +kernel)
theorem c_M_hasTimes {sw : Bool} {w : mj_W} (hw : wk sw w) (f : mj_F) (x1 : Int)  : mj_call yM_hasTimes w f [.inr (.inl 223), .inl x1] = if (f 223 53) = 0 then mj_run yM_hasTimes w f 11 [.inr (.inl 223), .inl x1, .inl 0, .inr (.inr (.inr 0)), .inr (.inr (.inr 0)), .inr (.inr (.inr 0)), .inr (.inr (.inr 0))] [] else some (w, f, some (.inl 0)) := by
  show mj_run yM_hasTimes w f 0 [.inr (.inl 223), .inl x1, .inr (.inr (.inr 0)), .inr (.inr (.inr 0)), .inr (.inr (.inr 0)), .inr (.inr (.inr 0)), .inr (.inr (.inr 0))] [] = _
  refine ms_aload_n (k := 0) (p' := 1) (by decide +kernel) rfl rfl ?_
  refine ms_geti (idx := 289) (ci := 9) (k := 53) (q := 1444) (p' := 4) (by decide +kernel) rfl (k_223 hw) ?_
  refine ms_if_eq (off := 5) (t := 9) (p' := 7) (by decide +kernel) rfl (fun hc => ?_) (fun hc => ?_)
  · refine ms_iconst (n := 0) (v := 0) (p' := 10) (by decide +kernel) rfl ?_
    refine ms_istore_n (k := 2) (ls' := [.inr (.inl 223), .inl x1, .inl 0, .inr (.inr (.inr 0)), .inr (.inr (.inr 0)), .inr (.inr (.inr 0)), .inr (.inr (.inr 0))]) (p' := 11) (by decide +kernel) rfl (Nat.le_of_ble_eq_true rfl) rfl ?_
    rfl
  · refine ms_iconst (n := 0) (v := 0) (p' := 8) (by decide +kernel) rfl ?_
    exact (ms_zret (by decide +kernel)).trans (mj_gd_pos (by decide) _)
theorem l_M_hasTimes_11 {sw : Bool} {w : mj_W} (hw : wk sw w) (f : mj_F) (x1 : Int) (x2 : Int) (u3 : mj_V) (u4 : mj_V) (u5 : mj_V)  : mj_run yM_hasTimes w f 11 [.inr (.inl 223), .inl x1, .inl x2, u3, u4, u5, .inr (.inr (.inr 0))] [] = if (f 223 52) ≤ x2 then some (w, f, some (.inl 1)) else mj_run yM_hasTimes w f 21 [.inr (.inl 223), .inl x1, .inl x2, .inl 0, u4, u5, .inr (.inr (.inr 0))] [] := by
  refine ms_iload_n (k := 2) (p' := 12) (by decide +kernel) rfl rfl ?_
  refine ms_aload_n (k := 0) (p' := 13) (by decide +kernel) rfl rfl ?_
  refine ms_geti (idx := 280) (ci := 9) (k := 52) (q := 1443) (p' := 16) (by decide +kernel) rfl (k_223 hw) ?_
  refine ms_icmp_ge (off := 94) (t := 110) (p' := 19) (by decide +kernel) rfl (fun hc => ?_) (fun hc => ?_)
  · refine ms_iconst (n := 1) (v := 1) (p' := 111) (by decide +kernel) rfl ?_
    exact (ms_zret (by decide +kernel)).trans (mj_gd_pos (by decide) _)
  · refine ms_iconst (n := 0) (v := 0) (p' := 20) (by decide +kernel) rfl ?_
    refine ms_istore_n (k := 3) (ls' := [.inr (.inl 223), .inl x1, .inl x2, .inl 0, u4, u5, .inr (.inr (.inr 0))]) (p' := 21) (by decide +kernel) rfl (Nat.le_of_ble_eq_true rfl) rfl ?_
    rfl
theorem l_M_hasTimes_21 {sw : Bool} {w : mj_W} (hw : wk sw w) (f : mj_F) (x1 : Int) (x2 : Int) (x3 : Int) (u4 : mj_V) (u5 : mj_V)  : mj_run yM_hasTimes w f 21 [.inr (.inl 223), .inl x1, .inl x2, .inl x3, u4, u5, .inr (.inr (.inr 0))] [] = if (f 223 52) ≤ x3 then mj_run yM_hasTimes w f 11 [.inr (.inl 223), .inl x1, .inl (mj_w (x2 + 1)), .inl x3, u4, u5, .inr (.inr (.inr 0))] [] else mj_bi (mj_call yM_get w f [.inr (.inl 223), .inl x2, .inl x3]) (fun f1 v2 => if v2 < 1000000 then mj_gd (0 ≤ x2 ∧ x2 < ((5 : Nat) : Int)) (mj_gd (0 ≤ x3 ∧ x3 < ((5 : Nat) : Int)) (mj_bi (mj_call yM_numberOf w f1 [.inl v2]) (fun f5 v6 => if 0 < (mj_cmp (mj_w64 ((mj_w64 ((f1 253 x2.toNat) - (f1 253 x3.toNat))) - (mj_w64 (x1 * v6)))) 0) then some (w, f5, some (.inl 0)) else if ¬ (mj_cmp (mj_w64 ((mj_w64 ((f1 253 x2.toNat) - (f1 253 x3.toNat))) - (mj_w64 (x1 * v6)))) 0) = 0 then mj_run yM_hasTimes w f5 21 [.inr (.inl 223), .inl x1, .inl x2, .inl (mj_w (x3 + 1)), .inl v2, .inr (.inr (.inl (mj_w64 ((mj_w64 ((f1 253 x2.toNat) - (f1 253 x3.toNat))) - (mj_w64 (x1 * v6)))))), .inr (.inr (.inr 0))] [] else if ¬ (mj_and v2 1) = 0 then mj_run yM_hasTimes w f5 21 [.inr (.inl 223), .inl x1, .inl x2, .inl (mj_w (x3 + 1)), .inl v2, .inr (.inr (.inl (mj_w64 ((mj_w64 ((f1 253 x2.toNat) - (f1 253 x3.toNat))) - (mj_w64 (x1 * v6)))))), .inr (.inr (.inr 0))] [] else some (w, f5, some (.inl 0))))) else mj_run yM_hasTimes w f1 21 [.inr (.inl 223), .inl x1, .inl x2, .inl (mj_w (x3 + 1)), .inl v2, u5, .inr (.inr (.inr 0))] []) := by
  refine ms_iload_n (k := 3) (p' := 22) (by decide +kernel) rfl rfl ?_
  refine ms_aload_n (k := 0) (p' := 23) (by decide +kernel) rfl rfl ?_
  refine ms_geti (idx := 280) (ci := 9) (k := 52) (q := 1443) (p' := 26) (by decide +kernel) rfl (k_223 hw) ?_
  refine ms_icmp_ge (off := 78) (t := 104) (p' := 29) (by decide +kernel) rfl (fun hc => ?_) (fun hc => ?_)
  · refine ms_iinc (k := 2) (n := 1) (ls' := [.inr (.inl 223), .inl x1, .inl (mj_w (x2 + 1)), .inl x3, u4, u5, .inr (.inr (.inr 0))]) (p' := 107) (by decide +kernel) rfl rfl rfl ?_
    refine ms_goto (off := (-96)) (p' := 11) (by decide +kernel) ?_
    rfl
  · refine ms_aload_n (k := 0) (p' := 30) (by decide +kernel) rfl rfl ?_
    refine ms_iload_n (k := 2) (p' := 31) (by decide +kernel) rfl rfl ?_
    refine ms_iload_n (k := 3) (p' := 32) (by decide +kernel) rfl rfl ?_
    refine ms_virt_i (idx := 272) (cy := yM_get) (n := 2) (a := 223) (as := [.inl x2, .inl x3]) (rest := []) (p' := 35) (by decide +kernel) rfl rfl rfl rfl (k_223 hw) rfl (fun f1 v2 => ?_)
    refine ms_istore (k := 4) (ls' := [.inr (.inl 223), .inl x1, .inl x2, .inl x3, .inl v2, u5, .inr (.inr (.inr 0))]) (p' := 37) (by decide +kernel) rfl (Nat.le_of_ble_eq_true rfl) rfl ?_
    refine ms_iload (k := 4) (p' := 39) (by decide +kernel) rfl rfl ?_
    refine ms_ldc_w (idx := 271) (v := 1000000) (p' := 42) (by decide +kernel) rfl ?_
    refine ms_icmp_lt (off := 6) (t := 48) (p' := 45) (by decide +kernel) rfl (fun hc => ?_) (fun hc => ?_)
    · refine ms_aload_n (k := 0) (p' := 49) (by decide +kernel) rfl rfl ?_
      refine ms_getr (idx := 105) (ci := 9) (k := 54) (q := 1445) (p' := 52) (by decide +kernel) rfl (k_223 hw) (r_223_54 hw) (by decide) ?_
      refine ms_iload_n (k := 2) (p' := 53) (by decide +kernel) rfl rfl ?_
      refine ms_iald (p' := 54) (by decide +kernel) rfl (k_253 hw) (fun hj3 => ?_)
      refine ms_i2l (p' := 55) (by decide +kernel) rfl ?_
      refine ms_aload_n (k := 0) (p' := 56) (by decide +kernel) rfl rfl ?_
      refine ms_getr (idx := 105) (ci := 9) (k := 54) (q := 1445) (p' := 59) (by decide +kernel) rfl (k_223 hw) (r_223_54 hw) (by decide) ?_
      refine ms_iload_n (k := 3) (p' := 60) (by decide +kernel) rfl rfl ?_
      refine ms_iald (p' := 61) (by decide +kernel) rfl (k_253 hw) (fun hj4 => ?_)
      refine ms_i2l (p' := 62) (by decide +kernel) rfl ?_
      refine ms_lsub (p' := 63) (by decide +kernel) rfl ?_
      refine ms_iload_n (k := 1) (p' := 64) (by decide +kernel) rfl rfl ?_
      refine ms_i2l (p' := 65) (by decide +kernel) rfl ?_
      refine ms_iload (k := 4) (p' := 67) (by decide +kernel) rfl rfl ?_
      refine ms_stat_i (idx := 318) (cy := yM_numberOf) (n := 1) (as := [.inl v2]) (rest := [.inr (.inr (.inl x1)), .inr (.inr (.inl (mj_w64 ((f1 253 x2.toNat) - (f1 253 x3.toNat)))))]) (p' := 70) (by decide +kernel) rfl rfl rfl rfl rfl (fun f5 v6 => ?_)
      refine ms_i2l (p' := 71) (by decide +kernel) rfl ?_
      refine ms_lmul (p' := 72) (by decide +kernel) rfl ?_
      refine ms_lsub (p' := 73) (by decide +kernel) rfl ?_
      refine ms_lstore (k := 5) (ls' := [.inr (.inl 223), .inl x1, .inl x2, .inl x3, .inl v2, .inr (.inr (.inl (mj_w64 ((mj_w64 ((f1 253 x2.toNat) - (f1 253 x3.toNat))) - (mj_w64 (x1 * v6)))))), .inr (.inr (.inr 0))]) (p' := 75) (by decide +kernel) rfl (Nat.le_of_ble_eq_true rfl) rfl ?_
      refine ms_lload (k := 5) (p' := 77) (by decide +kernel) rfl rfl ?_
      refine ms_lconst (n := 0) (v := 0) (p' := 78) (by decide +kernel) rfl ?_
      refine ms_lcmp (p' := 79) (by decide +kernel) rfl ?_
      refine ms_if_gt (off := 17) (t := 96) (p' := 82) (by decide +kernel) rfl (fun hc => ?_) (fun hc => ?_)
      · refine ms_iconst (n := 0) (v := 0) (p' := 97) (by decide +kernel) rfl ?_
        exact (ms_zret (by decide +kernel)).trans (mj_gd_pos (by decide) _)
      · refine ms_lload (k := 5) (p' := 84) (by decide +kernel) rfl rfl ?_
        refine ms_lconst (n := 0) (v := 0) (p' := 85) (by decide +kernel) rfl ?_
        refine ms_lcmp (p' := 86) (by decide +kernel) rfl ?_
        refine ms_if_ne (off := 12) (t := 98) (p' := 89) (by decide +kernel) rfl (fun hc => ?_) (fun hc => ?_)
        · refine ms_iinc (k := 3) (n := 1) (ls' := [.inr (.inl 223), .inl x1, .inl x2, .inl (mj_w (x3 + 1)), .inl v2, .inr (.inr (.inl (mj_w64 ((mj_w64 ((f1 253 x2.toNat) - (f1 253 x3.toNat))) - (mj_w64 (x1 * v6)))))), .inr (.inr (.inr 0))]) (p' := 101) (by decide +kernel) rfl rfl rfl ?_
          refine ms_goto (off := (-80)) (p' := 21) (by decide +kernel) ?_
          rfl
        · refine ms_iload (k := 4) (p' := 91) (by decide +kernel) rfl rfl ?_
          refine ms_iconst (n := 1) (v := 1) (p' := 92) (by decide +kernel) rfl ?_
          refine ms_iand (p' := 93) (by decide +kernel) rfl ?_
          refine ms_if_ne (off := 5) (t := 98) (p' := 96) (by decide +kernel) rfl (fun hc => ?_) (fun hc => ?_)
          · refine ms_iinc (k := 3) (n := 1) (ls' := [.inr (.inl 223), .inl x1, .inl x2, .inl (mj_w (x3 + 1)), .inl v2, .inr (.inr (.inl (mj_w64 ((mj_w64 ((f1 253 x2.toNat) - (f1 253 x3.toNat))) - (mj_w64 (x1 * v6)))))), .inr (.inr (.inr 0))]) (p' := 101) (by decide +kernel) rfl rfl rfl ?_
            refine ms_goto (off := (-80)) (p' := 21) (by decide +kernel) ?_
            rfl
          · refine ms_iconst (n := 0) (v := 0) (p' := 97) (by decide +kernel) rfl ?_
            exact (ms_zret (by decide +kernel)).trans (mj_gd_pos (by decide) _)
    · refine ms_goto (off := 53) (p' := 98) (by decide +kernel) ?_
      refine ms_iinc (k := 3) (n := 1) (ls' := [.inr (.inl 223), .inl x1, .inl x2, .inl (mj_w (x3 + 1)), .inl v2, u5, .inr (.inr (.inr 0))]) (p' := 101) (by decide +kernel) rfl rfl rfl ?_
      refine ms_goto (off := (-80)) (p' := 21) (by decide +kernel) ?_
      rfl
theorem c_M_has {sw : Bool} {w : mj_W} (hw : wk sw w) (f : mj_F) (x1 : Int) (x2 : Int) (x3 : Int) (x4 : Int) (x5 : Int)  : mj_call yM_has w f [.inr (.inl 223), .inl x1, .inl x2, .inl x3, .inl x4, .inl x5] = mj_bi (mj_call yM_isTable w (mj_u f 223 0 0) [.inl x1]) (fun f1 v2 => if v2 = 0 then some (w, f1, some (.inl (-1))) else if x2 < 0 then some (w, f1, some (.inl (-1))) else if x3 < 0 then some (w, f1, some (.inl (-1))) else if x4 < 0 then some (w, f1, some (.inl (-1))) else if 0 ≤ x5 then mj_bu (mj_call yM_loads w (mj_u (mj_u (mj_u (mj_u (mj_u f1 253 (0 : Int).toNat 0) 253 (1 : Int).toNat x2) 253 (2 : Int).toNat x3) 253 (3 : Int).toNat x4) 253 (4 : Int).toNat x5) [.inr (.inl 223), .inl x1]) (fun f8 => mj_bi (mj_call yM_hasTimes w f8 [.inr (.inl 223), .inl 2]) (fun f9 v10 => if v10 = 0 then some (w, f9, some (.inl 0)) else some (w, f9, some (.inl 1)))) else some (w, f1, some (.inl (-1)))) := by
  show mj_run yM_has w f 0 [.inr (.inl 223), .inl x1, .inl x2, .inl x3, .inl x4, .inl x5] [] = _
  refine ms_aload_n (k := 0) (p' := 1) (by decide +kernel) rfl rfl ?_
  refine ms_iconst (n := 0) (v := 0) (p' := 2) (by decide +kernel) rfl ?_
  refine ms_puti (idx := 1) (ci := 9) (k := 0) (q := 1391) (p' := 5) (by decide +kernel) rfl (k_223 hw) ?_
  refine ms_iload_n (k := 1) (p' := 6) (by decide +kernel) rfl rfl ?_
  refine ms_stat_i (idx := 327) (cy := yM_isTable) (n := 1) (as := [.inl x1]) (rest := []) (p' := 9) (by decide +kernel) rfl rfl rfl rfl rfl (fun f1 v2 => ?_)
  refine ms_if_eq (off := 21) (t := 30) (p' := 12) (by decide +kernel) rfl (fun hc => ?_) (fun hc => ?_)
  · refine ms_iconst (n := (-1)) (v := (-1)) (p' := 31) (by decide +kernel) rfl ?_
    exact ms_iret (by decide +kernel)
  · refine ms_iload_n (k := 2) (p' := 13) (by decide +kernel) rfl rfl ?_
    refine ms_if_lt (off := 17) (t := 30) (p' := 16) (by decide +kernel) rfl (fun hc => ?_) (fun hc => ?_)
    · refine ms_iconst (n := (-1)) (v := (-1)) (p' := 31) (by decide +kernel) rfl ?_
      exact ms_iret (by decide +kernel)
    · refine ms_iload_n (k := 3) (p' := 17) (by decide +kernel) rfl rfl ?_
      refine ms_if_lt (off := 13) (t := 30) (p' := 20) (by decide +kernel) rfl (fun hc => ?_) (fun hc => ?_)
      · refine ms_iconst (n := (-1)) (v := (-1)) (p' := 31) (by decide +kernel) rfl ?_
        exact ms_iret (by decide +kernel)
      · refine ms_iload (k := 4) (p' := 22) (by decide +kernel) rfl rfl ?_
        refine ms_if_lt (off := 8) (t := 30) (p' := 25) (by decide +kernel) rfl (fun hc => ?_) (fun hc => ?_)
        · refine ms_iconst (n := (-1)) (v := (-1)) (p' := 31) (by decide +kernel) rfl ?_
          exact ms_iret (by decide +kernel)
        · refine ms_iload (k := 5) (p' := 27) (by decide +kernel) rfl rfl ?_
          refine ms_if_ge (off := 5) (t := 32) (p' := 30) (by decide +kernel) rfl (fun hc => ?_) (fun hc => ?_)
          · refine ms_aload_n (k := 0) (p' := 33) (by decide +kernel) rfl rfl ?_
            refine ms_getr (idx := 105) (ci := 9) (k := 54) (q := 1445) (p' := 36) (by decide +kernel) rfl (k_223 hw) (r_223_54 hw) (by decide) ?_
            refine ms_iconst (n := 0) (v := 0) (p' := 37) (by decide +kernel) rfl ?_
            refine ms_iconst (n := 0) (v := 0) (p' := 38) (by decide +kernel) rfl ?_
            refine Eq.trans (ms_iast (p' := 39) (by decide +kernel) rfl (k_253 hw) (fun hj3 => ?_)) (mj_gd_pos (by decide) _)
            refine ms_aload_n (k := 0) (p' := 40) (by decide +kernel) rfl rfl ?_
            refine ms_getr (idx := 105) (ci := 9) (k := 54) (q := 1445) (p' := 43) (by decide +kernel) rfl (k_223 hw) (r_223_54 hw) (by decide) ?_
            refine ms_iconst (n := 1) (v := 1) (p' := 44) (by decide +kernel) rfl ?_
            refine ms_iload_n (k := 2) (p' := 45) (by decide +kernel) rfl rfl ?_
            refine Eq.trans (ms_iast (p' := 46) (by decide +kernel) rfl (k_253 hw) (fun hj4 => ?_)) (mj_gd_pos (by decide) _)
            refine ms_aload_n (k := 0) (p' := 47) (by decide +kernel) rfl rfl ?_
            refine ms_getr (idx := 105) (ci := 9) (k := 54) (q := 1445) (p' := 50) (by decide +kernel) rfl (k_223 hw) (r_223_54 hw) (by decide) ?_
            refine ms_iconst (n := 2) (v := 2) (p' := 51) (by decide +kernel) rfl ?_
            refine ms_iload_n (k := 3) (p' := 52) (by decide +kernel) rfl rfl ?_
            refine Eq.trans (ms_iast (p' := 53) (by decide +kernel) rfl (k_253 hw) (fun hj5 => ?_)) (mj_gd_pos (by decide) _)
            refine ms_aload_n (k := 0) (p' := 54) (by decide +kernel) rfl rfl ?_
            refine ms_getr (idx := 105) (ci := 9) (k := 54) (q := 1445) (p' := 57) (by decide +kernel) rfl (k_223 hw) (r_223_54 hw) (by decide) ?_
            refine ms_iconst (n := 3) (v := 3) (p' := 58) (by decide +kernel) rfl ?_
            refine ms_iload (k := 4) (p' := 60) (by decide +kernel) rfl rfl ?_
            refine Eq.trans (ms_iast (p' := 61) (by decide +kernel) rfl (k_253 hw) (fun hj6 => ?_)) (mj_gd_pos (by decide) _)
            refine ms_aload_n (k := 0) (p' := 62) (by decide +kernel) rfl rfl ?_
            refine ms_getr (idx := 105) (ci := 9) (k := 54) (q := 1445) (p' := 65) (by decide +kernel) rfl (k_223 hw) (r_223_54 hw) (by decide) ?_
            refine ms_iconst (n := 4) (v := 4) (p' := 66) (by decide +kernel) rfl ?_
            refine ms_iload (k := 5) (p' := 68) (by decide +kernel) rfl rfl ?_
            refine Eq.trans (ms_iast (p' := 69) (by decide +kernel) rfl (k_253 hw) (fun hj7 => ?_)) (mj_gd_pos (by decide) _)
            refine ms_aload_n (k := 0) (p' := 70) (by decide +kernel) rfl rfl ?_
            refine ms_iload_n (k := 1) (p' := 71) (by decide +kernel) rfl rfl ?_
            refine ms_virt_u (idx := 340) (cy := yM_loads) (n := 1) (a := 223) (as := [.inl x1]) (rest := []) (p' := 74) (by decide +kernel) rfl rfl rfl rfl (k_223 hw) rfl (fun f8 => ?_)
            refine ms_aload_n (k := 0) (p' := 75) (by decide +kernel) rfl rfl ?_
            refine ms_iconst (n := 2) (v := 2) (p' := 76) (by decide +kernel) rfl ?_
            refine ms_virt_i (idx := 387) (cy := yM_hasTimes) (n := 1) (a := 223) (as := [.inl 2]) (rest := []) (p' := 79) (by decide +kernel) rfl rfl rfl rfl (k_223 hw) rfl (fun f9 v10 => ?_)
            refine ms_if_eq (off := 7) (t := 86) (p' := 82) (by decide +kernel) rfl (fun hc => ?_) (fun hc => ?_)
            · refine ms_iconst (n := 0) (v := 0) (p' := 87) (by decide +kernel) rfl ?_
              exact ms_iret (by decide +kernel)
            · refine ms_iconst (n := 1) (v := 1) (p' := 83) (by decide +kernel) rfl ?_
              refine ms_goto (off := 4) (p' := 87) (by decide +kernel) ?_
              exact ms_iret (by decide +kernel)
          · refine ms_iconst (n := (-1)) (v := (-1)) (p' := 31) (by decide +kernel) rfl ?_
            exact ms_iret (by decide +kernel)
theorem c_M_follows {sw : Bool} {w : mj_W} (hw : wk sw w) (f : mj_F) (x1 : Int) (x2 : Int)  : mj_call yM_follows w f [.inr (.inl 223), .inl x1, .inl x2] = mj_run yM_follows w f 2 [.inr (.inl 223), .inl x1, .inl x2, .inl 0] [] := by
  show mj_run yM_follows w f 0 [.inr (.inl 223), .inl x1, .inl x2, .inr (.inr (.inr 0))] [] = _
  refine ms_iconst (n := 0) (v := 0) (p' := 1) (by decide +kernel) rfl ?_
  refine ms_istore_n (k := 3) (ls' := [.inr (.inl 223), .inl x1, .inl x2, .inl 0]) (p' := 2) (by decide +kernel) rfl (Nat.le_of_ble_eq_true rfl) rfl ?_
  rfl
theorem l_M_follows_2 {sw : Bool} {w : mj_W} (hw : wk sw w) (f : mj_F) (x1 : Int) (x2 : Int) (x3 : Int)  : mj_run yM_follows w f 2 [.inr (.inl 223), .inl x1, .inl x2, .inl x3] [] = if (f 223 52) ≤ x3 then some (w, f, some (.inl 0)) else if x3 = x1 then mj_run yM_follows w f 2 [.inr (.inl 223), .inl x1, .inl x2, .inl (mj_w (x3 + 1))] [] else if x3 = x2 then mj_run yM_follows w f 2 [.inr (.inl 223), .inl x1, .inl x2, .inl (mj_w (x3 + 1))] [] else mj_bi (mj_call yM_get w f [.inr (.inl 223), .inl x1, .inl x3]) (fun f1 v2 => mj_bi (mj_call yM_get w f1 [.inr (.inl 223), .inl x3, .inl x2]) (fun f3 v4 => mj_bi (mj_call yM_plus w f3 [.inl v2, .inl v4]) (fun f5 v6 => mj_bi (mj_call yM_get w f5 [.inr (.inl 223), .inl x1, .inl x2]) (fun f7 v8 => if v8 < v6 then mj_run yM_follows w f7 2 [.inr (.inl 223), .inl x1, .inl x2, .inl (mj_w (x3 + 1))] [] else some (w, f7, some (.inl 1)))))) := by
  refine ms_iload_n (k := 3) (p' := 3) (by decide +kernel) rfl rfl ?_
  refine ms_aload_n (k := 0) (p' := 4) (by decide +kernel) rfl rfl ?_
  refine ms_geti (idx := 280) (ci := 9) (k := 52) (q := 1443) (p' := 7) (by decide +kernel) rfl (k_223 hw) ?_
  refine ms_icmp_ge (off := 45) (t := 52) (p' := 10) (by decide +kernel) rfl (fun hc => ?_) (fun hc => ?_)
  · refine ms_iconst (n := 0) (v := 0) (p' := 53) (by decide +kernel) rfl ?_
    exact (ms_zret (by decide +kernel)).trans (mj_gd_pos (by decide) _)
  · refine ms_iload_n (k := 3) (p' := 11) (by decide +kernel) rfl rfl ?_
    refine ms_iload_n (k := 1) (p' := 12) (by decide +kernel) rfl rfl ?_
    refine ms_icmp_eq (off := 34) (t := 46) (p' := 15) (by decide +kernel) rfl (fun hc => ?_) (fun hc => ?_)
    · refine ms_iinc (k := 3) (n := 1) (ls' := [.inr (.inl 223), .inl x1, .inl x2, .inl (mj_w (x3 + 1))]) (p' := 49) (by decide +kernel) rfl rfl rfl ?_
      refine ms_goto (off := (-47)) (p' := 2) (by decide +kernel) ?_
      rfl
    · refine ms_iload_n (k := 3) (p' := 16) (by decide +kernel) rfl rfl ?_
      refine ms_iload_n (k := 2) (p' := 17) (by decide +kernel) rfl rfl ?_
      refine ms_icmp_eq (off := 29) (t := 46) (p' := 20) (by decide +kernel) rfl (fun hc => ?_) (fun hc => ?_)
      · refine ms_iinc (k := 3) (n := 1) (ls' := [.inr (.inl 223), .inl x1, .inl x2, .inl (mj_w (x3 + 1))]) (p' := 49) (by decide +kernel) rfl rfl rfl ?_
        refine ms_goto (off := (-47)) (p' := 2) (by decide +kernel) ?_
        rfl
      · refine ms_aload_n (k := 0) (p' := 21) (by decide +kernel) rfl rfl ?_
        refine ms_iload_n (k := 1) (p' := 22) (by decide +kernel) rfl rfl ?_
        refine ms_iload_n (k := 3) (p' := 23) (by decide +kernel) rfl rfl ?_
        refine ms_virt_i (idx := 272) (cy := yM_get) (n := 2) (a := 223) (as := [.inl x1, .inl x3]) (rest := []) (p' := 26) (by decide +kernel) rfl rfl rfl rfl (k_223 hw) rfl (fun f1 v2 => ?_)
        refine ms_aload_n (k := 0) (p' := 27) (by decide +kernel) rfl rfl ?_
        refine ms_iload_n (k := 3) (p' := 28) (by decide +kernel) rfl rfl ?_
        refine ms_iload_n (k := 2) (p' := 29) (by decide +kernel) rfl rfl ?_
        refine ms_virt_i (idx := 272) (cy := yM_get) (n := 2) (a := 223) (as := [.inl x3, .inl x2]) (rest := [.inl v2]) (p' := 32) (by decide +kernel) rfl rfl rfl rfl (k_223 hw) rfl (fun f3 v4 => ?_)
        refine ms_stat_i (idx := 283) (cy := yM_plus) (n := 2) (as := [.inl v2, .inl v4]) (rest := []) (p' := 35) (by decide +kernel) rfl rfl rfl rfl rfl (fun f5 v6 => ?_)
        refine ms_aload_n (k := 0) (p' := 36) (by decide +kernel) rfl rfl ?_
        refine ms_iload_n (k := 1) (p' := 37) (by decide +kernel) rfl rfl ?_
        refine ms_iload_n (k := 2) (p' := 38) (by decide +kernel) rfl rfl ?_
        refine ms_virt_i (idx := 272) (cy := yM_get) (n := 2) (a := 223) (as := [.inl x1, .inl x2]) (rest := [.inl v6]) (p' := 41) (by decide +kernel) rfl rfl rfl rfl (k_223 hw) rfl (fun f7 v8 => ?_)
        refine ms_icmp_gt (off := 5) (t := 46) (p' := 44) (by decide +kernel) rfl (fun hc => ?_) (fun hc => ?_)
        · refine ms_iinc (k := 3) (n := 1) (ls' := [.inr (.inl 223), .inl x1, .inl x2, .inl (mj_w (x3 + 1))]) (p' := 49) (by decide +kernel) rfl rfl rfl ?_
          refine ms_goto (off := (-47)) (p' := 2) (by decide +kernel) ?_
          rfl
        · refine ms_iconst (n := 1) (v := 1) (p' := 45) (by decide +kernel) rfl ?_
          exact (ms_zret (by decide +kernel)).trans (mj_gd_pos (by decide) _)
theorem c_M_pairs {sw : Bool} {w : mj_W} (hw : wk sw w) (f : mj_F) (x1 : Int) (x2 : Int)  : mj_call yM_pairs w f [.inr (.inl 223), .inl x1, .inl x2] = mj_bi (mj_call yM_isTable w (mj_u f 223 0 0) [.inl x1]) (fun f1 v2 => if v2 = 0 then some (w, f1, some (.inl (-1))) else mj_bi (mj_call yM_isIn w f1 [.inl x2, .inl 0, .inl 2]) (fun f3 v4 => if ¬ v4 = 0 then mj_bu (mj_call yM_loads w f3 [.inr (.inl 223), .inl x1]) (fun f5 => if (f5 223 53) = 0 then mj_run yM_pairs w f5 43 [.inr (.inl 223), .inl x1, .inl x2, .inl 0, .inl 0, .inr (.inr (.inr 0))] [] else some (w, f5, some (.inl (-2)))) else some (w, f3, some (.inl (-1))))) := by
  show mj_run yM_pairs w f 0 [.inr (.inl 223), .inl x1, .inl x2, .inr (.inr (.inr 0)), .inr (.inr (.inr 0)), .inr (.inr (.inr 0))] [] = _
  refine ms_aload_n (k := 0) (p' := 1) (by decide +kernel) rfl rfl ?_
  refine ms_iconst (n := 0) (v := 0) (p' := 2) (by decide +kernel) rfl ?_
  refine ms_puti (idx := 1) (ci := 9) (k := 0) (q := 1391) (p' := 5) (by decide +kernel) rfl (k_223 hw) ?_
  refine ms_iload_n (k := 1) (p' := 6) (by decide +kernel) rfl rfl ?_
  refine ms_stat_i (idx := 327) (cy := yM_isTable) (n := 1) (as := [.inl x1]) (rest := []) (p' := 9) (by decide +kernel) rfl rfl rfl rfl rfl (fun f1 v2 => ?_)
  refine ms_if_eq (off := 12) (t := 21) (p' := 12) (by decide +kernel) rfl (fun hc => ?_) (fun hc => ?_)
  · refine ms_iconst (n := (-1)) (v := (-1)) (p' := 22) (by decide +kernel) rfl ?_
    exact ms_iret (by decide +kernel)
  · refine ms_iload_n (k := 2) (p' := 13) (by decide +kernel) rfl rfl ?_
    refine ms_iconst (n := 0) (v := 0) (p' := 14) (by decide +kernel) rfl ?_
    refine ms_iconst (n := 2) (v := 2) (p' := 15) (by decide +kernel) rfl ?_
    refine ms_stat_i (idx := 158) (cy := yM_isIn) (n := 3) (as := [.inl x2, .inl 0, .inl 2]) (rest := []) (p' := 18) (by decide +kernel) rfl rfl rfl rfl rfl (fun f3 v4 => ?_)
    refine ms_if_ne (off := 5) (t := 23) (p' := 21) (by decide +kernel) rfl (fun hc => ?_) (fun hc => ?_)
    · refine ms_aload_n (k := 0) (p' := 24) (by decide +kernel) rfl rfl ?_
      refine ms_iload_n (k := 1) (p' := 25) (by decide +kernel) rfl rfl ?_
      refine ms_virt_u (idx := 340) (cy := yM_loads) (n := 1) (a := 223) (as := [.inl x1]) (rest := []) (p' := 28) (by decide +kernel) rfl rfl rfl rfl (k_223 hw) rfl (fun f5 => ?_)
      refine ms_aload_n (k := 0) (p' := 29) (by decide +kernel) rfl rfl ?_
      refine ms_geti (idx := 289) (ci := 9) (k := 53) (q := 1444) (p' := 32) (by decide +kernel) rfl (k_223 hw) ?_
      refine ms_if_eq (off := 6) (t := 38) (p' := 35) (by decide +kernel) rfl (fun hc => ?_) (fun hc => ?_)
      · refine ms_iconst (n := 0) (v := 0) (p' := 39) (by decide +kernel) rfl ?_
        refine ms_istore_n (k := 3) (ls' := [.inr (.inl 223), .inl x1, .inl x2, .inl 0, .inr (.inr (.inr 0)), .inr (.inr (.inr 0))]) (p' := 40) (by decide +kernel) rfl (Nat.le_of_ble_eq_true rfl) rfl ?_
        refine ms_iconst (n := 0) (v := 0) (p' := 41) (by decide +kernel) rfl ?_
        refine ms_istore (k := 4) (ls' := [.inr (.inl 223), .inl x1, .inl x2, .inl 0, .inl 0, .inr (.inr (.inr 0))]) (p' := 43) (by decide +kernel) rfl (Nat.le_of_ble_eq_true rfl) rfl ?_
        rfl
      · refine ms_bipush (n := (-2)) (v := (-2)) (p' := 37) (by decide +kernel) rfl ?_
        exact ms_iret (by decide +kernel)
    · refine ms_iconst (n := (-1)) (v := (-1)) (p' := 22) (by decide +kernel) rfl ?_
      exact ms_iret (by decide +kernel)
theorem l_M_pairs_43 {sw : Bool} {w : mj_W} (hw : wk sw w) (f : mj_F) (x1 : Int) (x2 : Int) (x3 : Int) (x4 : Int) (u5 : mj_V)  : mj_run yM_pairs w f 43 [.inr (.inl 223), .inl x1, .inl x2, .inl x3, .inl x4, u5] [] = if (f 223 52) ≤ x4 then some (w, f, some (.inl x3)) else mj_run yM_pairs w f 55 [.inr (.inl 223), .inl x1, .inl x2, .inl x3, .inl x4, .inl 0] [] := by
  refine ms_iload (k := 4) (p' := 45) (by decide +kernel) rfl rfl ?_
  refine ms_aload_n (k := 0) (p' := 46) (by decide +kernel) rfl rfl ?_
  refine ms_geti (idx := 280) (ci := 9) (k := 52) (q := 1443) (p' := 49) (by decide +kernel) rfl (k_223 hw) ?_
  refine ms_icmp_ge (off := 96) (t := 145) (p' := 52) (by decide +kernel) rfl (fun hc => ?_) (fun hc => ?_)
  · refine ms_iload_n (k := 3) (p' := 146) (by decide +kernel) rfl rfl ?_
    exact ms_iret (by decide +kernel)
  · refine ms_iconst (n := 0) (v := 0) (p' := 53) (by decide +kernel) rfl ?_
    refine ms_istore (k := 5) (ls' := [.inr (.inl 223), .inl x1, .inl x2, .inl x3, .inl x4, .inl 0]) (p' := 55) (by decide +kernel) rfl (Nat.le_of_ble_eq_true rfl) rfl ?_
    rfl
theorem l_M_pairs_55 {sw : Bool} {w : mj_W} (hw : wk sw w) (f : mj_F) (x1 : Int) (x2 : Int) (x3 : Int) (x4 : Int) (x5 : Int)  : mj_run yM_pairs w f 55 [.inr (.inl 223), .inl x1, .inl x2, .inl x3, .inl x4, .inl x5] [] = if (f 223 52) ≤ x5 then mj_run yM_pairs w f 43 [.inr (.inl 223), .inl x1, .inl x2, .inl x3, .inl (mj_w (x4 + 1)), .inl x5] [] else if x4 = x5 then mj_run yM_pairs w f 55 [.inr (.inl 223), .inl x1, .inl x2, .inl x3, .inl x4, .inl (mj_w (x5 + 1))] [] else mj_bi (mj_call yM_get w f [.inr (.inl 223), .inl x4, .inl x5]) (fun f6 v7 => if v7 < 1000000 then if x2 = 0 then mj_run yM_pairs w f6 55 [.inr (.inl 223), .inl x1, .inl x2, .inl (mj_w (x3 + 1)), .inl x4, .inl (mj_w (x5 + 1))] [] else if ¬ x2 = 1 then mj_bi (mj_call yM_follows w f6 [.inr (.inl 223), .inl x4, .inl x5]) (fun f8 v9 => if ¬ v9 = 0 then mj_run yM_pairs w f8 55 [.inr (.inl 223), .inl x1, .inl x2, .inl (mj_w (x3 + 0)), .inl x4, .inl (mj_w (x5 + 1))] [] else mj_run yM_pairs w f8 55 [.inr (.inl 223), .inl x1, .inl x2, .inl (mj_w (x3 + 1)), .inl x4, .inl (mj_w (x5 + 1))] []) else mj_bi (mj_call yM_get w f6 [.inr (.inl 223), .inl x4, .inl x5]) (fun f10 v11 => if ¬ (mj_and v11 1) = 1 then mj_run yM_pairs w f10 55 [.inr (.inl 223), .inl x1, .inl x2, .inl (mj_w (x3 + 0)), .inl x4, .inl (mj_w (x5 + 1))] [] else mj_run yM_pairs w f10 55 [.inr (.inl 223), .inl x1, .inl x2, .inl (mj_w (x3 + 1)), .inl x4, .inl (mj_w (x5 + 1))] []) else mj_run yM_pairs w f6 55 [.inr (.inl 223), .inl x1, .inl x2, .inl x3, .inl x4, .inl (mj_w (x5 + 1))] []) := by
  refine ms_iload (k := 5) (p' := 57) (by decide +kernel) rfl rfl ?_
  refine ms_aload_n (k := 0) (p' := 58) (by decide +kernel) rfl rfl ?_
  refine ms_geti (idx := 280) (ci := 9) (k := 52) (q := 1443) (p' := 61) (by decide +kernel) rfl (k_223 hw) ?_
  refine ms_icmp_ge (off := 78) (t := 139) (p' := 64) (by decide +kernel) rfl (fun hc => ?_) (fun hc => ?_)
  · refine ms_iinc (k := 4) (n := 1) (ls' := [.inr (.inl 223), .inl x1, .inl x2, .inl x3, .inl (mj_w (x4 + 1)), .inl x5]) (p' := 142) (by decide +kernel) rfl rfl rfl ?_
    refine ms_goto (off := (-99)) (p' := 43) (by decide +kernel) ?_
    rfl
  · refine ms_iload (k := 4) (p' := 66) (by decide +kernel) rfl rfl ?_
    refine ms_iload (k := 5) (p' := 68) (by decide +kernel) rfl rfl ?_
    refine ms_icmp_eq (off := 65) (t := 133) (p' := 71) (by decide +kernel) rfl (fun hc => ?_) (fun hc => ?_)
    · refine ms_iinc (k := 5) (n := 1) (ls' := [.inr (.inl 223), .inl x1, .inl x2, .inl x3, .inl x4, .inl (mj_w (x5 + 1))]) (p' := 136) (by decide +kernel) rfl rfl rfl ?_
      refine ms_goto (off := (-81)) (p' := 55) (by decide +kernel) ?_
      rfl
    · refine ms_aload_n (k := 0) (p' := 72) (by decide +kernel) rfl rfl ?_
      refine ms_iload (k := 4) (p' := 74) (by decide +kernel) rfl rfl ?_
      refine ms_iload (k := 5) (p' := 76) (by decide +kernel) rfl rfl ?_
      refine ms_virt_i (idx := 272) (cy := yM_get) (n := 2) (a := 223) (as := [.inl x4, .inl x5]) (rest := []) (p' := 79) (by decide +kernel) rfl rfl rfl rfl (k_223 hw) rfl (fun f6 v7 => ?_)
      refine ms_ldc_w (idx := 271) (v := 1000000) (p' := 82) (by decide +kernel) rfl ?_
      refine ms_icmp_lt (off := 6) (t := 88) (p' := 85) (by decide +kernel) rfl (fun hc => ?_) (fun hc => ?_)
      · refine ms_iload_n (k := 3) (p' := 89) (by decide +kernel) rfl rfl ?_
        refine ms_iload_n (k := 2) (p' := 90) (by decide +kernel) rfl rfl ?_
        refine ms_if_eq (off := 36) (t := 126) (p' := 93) (by decide +kernel) rfl (fun hc => ?_) (fun hc => ?_)
        · refine ms_iconst (n := 1) (v := 1) (p' := 127) (by decide +kernel) rfl ?_
          refine ms_goto (off := 4) (p' := 131) (by decide +kernel) ?_
          refine ms_iadd (p' := 132) (by decide +kernel) rfl ?_
          refine ms_istore_n (k := 3) (ls' := [.inr (.inl 223), .inl x1, .inl x2, .inl (mj_w (x3 + 1)), .inl x4, .inl x5]) (p' := 133) (by decide +kernel) rfl (Nat.le_of_ble_eq_true rfl) rfl ?_
          refine ms_iinc (k := 5) (n := 1) (ls' := [.inr (.inl 223), .inl x1, .inl x2, .inl (mj_w (x3 + 1)), .inl x4, .inl (mj_w (x5 + 1))]) (p' := 136) (by decide +kernel) rfl rfl rfl ?_
          refine ms_goto (off := (-81)) (p' := 55) (by decide +kernel) ?_
          rfl
        · refine ms_iload_n (k := 2) (p' := 94) (by decide +kernel) rfl rfl ?_
          refine ms_iconst (n := 1) (v := 1) (p' := 95) (by decide +kernel) rfl ?_
          refine ms_icmp_ne (off := 20) (t := 115) (p' := 98) (by decide +kernel) rfl (fun hc => ?_) (fun hc => ?_)
          · refine ms_aload_n (k := 0) (p' := 116) (by decide +kernel) rfl rfl ?_
            refine ms_iload (k := 4) (p' := 118) (by decide +kernel) rfl rfl ?_
            refine ms_iload (k := 5) (p' := 120) (by decide +kernel) rfl rfl ?_
            refine ms_virt_i (idx := 390) (cy := yM_follows) (n := 2) (a := 223) (as := [.inl x4, .inl x5]) (rest := [.inl x3]) (p' := 123) (by decide +kernel) rfl rfl rfl rfl (k_223 hw) rfl (fun f8 v9 => ?_)
            refine ms_if_ne (off := 7) (t := 130) (p' := 126) (by decide +kernel) rfl (fun hc => ?_) (fun hc => ?_)
            · refine ms_iconst (n := 0) (v := 0) (p' := 131) (by decide +kernel) rfl ?_
              refine ms_iadd (p' := 132) (by decide +kernel) rfl ?_
              refine ms_istore_n (k := 3) (ls' := [.inr (.inl 223), .inl x1, .inl x2, .inl (mj_w (x3 + 0)), .inl x4, .inl x5]) (p' := 133) (by decide +kernel) rfl (Nat.le_of_ble_eq_true rfl) rfl ?_
              refine ms_iinc (k := 5) (n := 1) (ls' := [.inr (.inl 223), .inl x1, .inl x2, .inl (mj_w (x3 + 0)), .inl x4, .inl (mj_w (x5 + 1))]) (p' := 136) (by decide +kernel) rfl rfl rfl ?_
              refine ms_goto (off := (-81)) (p' := 55) (by decide +kernel) ?_
              rfl
            · refine ms_iconst (n := 1) (v := 1) (p' := 127) (by decide +kernel) rfl ?_
              refine ms_goto (off := 4) (p' := 131) (by decide +kernel) ?_
              refine ms_iadd (p' := 132) (by decide +kernel) rfl ?_
              refine ms_istore_n (k := 3) (ls' := [.inr (.inl 223), .inl x1, .inl x2, .inl (mj_w (x3 + 1)), .inl x4, .inl x5]) (p' := 133) (by decide +kernel) rfl (Nat.le_of_ble_eq_true rfl) rfl ?_
              refine ms_iinc (k := 5) (n := 1) (ls' := [.inr (.inl 223), .inl x1, .inl x2, .inl (mj_w (x3 + 1)), .inl x4, .inl (mj_w (x5 + 1))]) (p' := 136) (by decide +kernel) rfl rfl rfl ?_
              refine ms_goto (off := (-81)) (p' := 55) (by decide +kernel) ?_
              rfl
          · refine ms_aload_n (k := 0) (p' := 99) (by decide +kernel) rfl rfl ?_
            refine ms_iload (k := 4) (p' := 101) (by decide +kernel) rfl rfl ?_
            refine ms_iload (k := 5) (p' := 103) (by decide +kernel) rfl rfl ?_
            refine ms_virt_i (idx := 272) (cy := yM_get) (n := 2) (a := 223) (as := [.inl x4, .inl x5]) (rest := [.inl x3]) (p' := 106) (by decide +kernel) rfl rfl rfl rfl (k_223 hw) rfl (fun f10 v11 => ?_)
            refine ms_iconst (n := 1) (v := 1) (p' := 107) (by decide +kernel) rfl ?_
            refine ms_iand (p' := 108) (by decide +kernel) rfl ?_
            refine ms_iconst (n := 1) (v := 1) (p' := 109) (by decide +kernel) rfl ?_
            refine ms_icmp_ne (off := 21) (t := 130) (p' := 112) (by decide +kernel) rfl (fun hc => ?_) (fun hc => ?_)
            · refine ms_iconst (n := 0) (v := 0) (p' := 131) (by decide +kernel) rfl ?_
              refine ms_iadd (p' := 132) (by decide +kernel) rfl ?_
              refine ms_istore_n (k := 3) (ls' := [.inr (.inl 223), .inl x1, .inl x2, .inl (mj_w (x3 + 0)), .inl x4, .inl x5]) (p' := 133) (by decide +kernel) rfl (Nat.le_of_ble_eq_true rfl) rfl ?_
              refine ms_iinc (k := 5) (n := 1) (ls' := [.inr (.inl 223), .inl x1, .inl x2, .inl (mj_w (x3 + 0)), .inl x4, .inl (mj_w (x5 + 1))]) (p' := 136) (by decide +kernel) rfl rfl rfl ?_
              refine ms_goto (off := (-81)) (p' := 55) (by decide +kernel) ?_
              rfl
            · refine ms_goto (off := 14) (p' := 126) (by decide +kernel) ?_
              refine ms_iconst (n := 1) (v := 1) (p' := 127) (by decide +kernel) rfl ?_
              refine ms_goto (off := 4) (p' := 131) (by decide +kernel) ?_
              refine ms_iadd (p' := 132) (by decide +kernel) rfl ?_
              refine ms_istore_n (k := 3) (ls' := [.inr (.inl 223), .inl x1, .inl x2, .inl (mj_w (x3 + 1)), .inl x4, .inl x5]) (p' := 133) (by decide +kernel) rfl (Nat.le_of_ble_eq_true rfl) rfl ?_
              refine ms_iinc (k := 5) (n := 1) (ls' := [.inr (.inl 223), .inl x1, .inl x2, .inl (mj_w (x3 + 1)), .inl x4, .inl (mj_w (x5 + 1))]) (p' := 136) (by decide +kernel) rfl rfl rfl ?_
              refine ms_goto (off := (-81)) (p' := 55) (by decide +kernel) ?_
              rfl
      · refine ms_goto (off := 48) (p' := 133) (by decide +kernel) ?_
        refine ms_iinc (k := 5) (n := 1) (ls' := [.inr (.inl 223), .inl x1, .inl x2, .inl x3, .inl x4, .inl (mj_w (x5 + 1))]) (p' := 136) (by decide +kernel) rfl rfl rfl ?_
        refine ms_goto (off := (-81)) (p' := 55) (by decide +kernel) ?_
        rfl
theorem c_M_whole {sw : Bool} {w : mj_W} (hw : wk sw w) (f : mj_F) (x1 : Int) (x2 : Int)  : mj_call yM_whole w f [.inr (.inl 223), .inl x1, .inl x2] = mj_bi (mj_call yM_isTable w (mj_u f 223 0 0) [.inl x1]) (fun f1 v2 => if v2 = 0 then some (w, f1, some (.inl (-1))) else mj_bi (mj_call yM_isIn w f1 [.inl x2, .inl 0, .inl 9]) (fun f3 v4 => if ¬ v4 = 0 then mj_bu (mj_call yM_loads w f3 [.inr (.inl 223), .inl x1]) (fun f5 => mj_run yM_whole w f5 34 [.inr (.inl 223), .inl x1, .inl x2, .inl 1, .inl 0, .inr (.inr (.inr 0)), .inr (.inr (.inr 0)), .inr (.inr (.inr 0))] []) else some (w, f3, some (.inl (-1))))) := by
  show mj_run yM_whole w f 0 [.inr (.inl 223), .inl x1, .inl x2, .inr (.inr (.inr 0)), .inr (.inr (.inr 0)), .inr (.inr (.inr 0)), .inr (.inr (.inr 0)), .inr (.inr (.inr 0))] [] = _
  refine ms_aload_n (k := 0) (p' := 1) (by decide +kernel) rfl rfl ?_
  refine ms_iconst (n := 0) (v := 0) (p' := 2) (by decide +kernel) rfl ?_
  refine ms_puti (idx := 1) (ci := 9) (k := 0) (q := 1391) (p' := 5) (by decide +kernel) rfl (k_223 hw) ?_
  refine ms_iload_n (k := 1) (p' := 6) (by decide +kernel) rfl rfl ?_
  refine ms_stat_i (idx := 327) (cy := yM_isTable) (n := 1) (as := [.inl x1]) (rest := []) (p' := 9) (by decide +kernel) rfl rfl rfl rfl rfl (fun f1 v2 => ?_)
  refine ms_if_eq (off := 13) (t := 22) (p' := 12) (by decide +kernel) rfl (fun hc => ?_) (fun hc => ?_)
  · refine ms_iconst (n := (-1)) (v := (-1)) (p' := 23) (by decide +kernel) rfl ?_
    exact ms_iret (by decide +kernel)
  · refine ms_iload_n (k := 2) (p' := 13) (by decide +kernel) rfl rfl ?_
    refine ms_iconst (n := 0) (v := 0) (p' := 14) (by decide +kernel) rfl ?_
    refine ms_bipush (n := 9) (v := 9) (p' := 16) (by decide +kernel) rfl ?_
    refine ms_stat_i (idx := 158) (cy := yM_isIn) (n := 3) (as := [.inl x2, .inl 0, .inl 9]) (rest := []) (p' := 19) (by decide +kernel) rfl rfl rfl rfl rfl (fun f3 v4 => ?_)
    refine ms_if_ne (off := 5) (t := 24) (p' := 22) (by decide +kernel) rfl (fun hc => ?_) (fun hc => ?_)
    · refine ms_aload_n (k := 0) (p' := 25) (by decide +kernel) rfl rfl ?_
      refine ms_iload_n (k := 1) (p' := 26) (by decide +kernel) rfl rfl ?_
      refine ms_virt_u (idx := 340) (cy := yM_loads) (n := 1) (a := 223) (as := [.inl x1]) (rest := []) (p' := 29) (by decide +kernel) rfl rfl rfl rfl (k_223 hw) rfl (fun f5 => ?_)
      refine ms_iconst (n := 1) (v := 1) (p' := 30) (by decide +kernel) rfl ?_
      refine ms_istore_n (k := 3) (ls' := [.inr (.inl 223), .inl x1, .inl x2, .inl 1, .inr (.inr (.inr 0)), .inr (.inr (.inr 0)), .inr (.inr (.inr 0)), .inr (.inr (.inr 0))]) (p' := 31) (by decide +kernel) rfl (Nat.le_of_ble_eq_true rfl) rfl ?_
      refine ms_iconst (n := 0) (v := 0) (p' := 32) (by decide +kernel) rfl ?_
      refine ms_istore (k := 4) (ls' := [.inr (.inl 223), .inl x1, .inl x2, .inl 1, .inl 0, .inr (.inr (.inr 0)), .inr (.inr (.inr 0)), .inr (.inr (.inr 0))]) (p' := 34) (by decide +kernel) rfl (Nat.le_of_ble_eq_true rfl) rfl ?_
      rfl
    · refine ms_iconst (n := (-1)) (v := (-1)) (p' := 23) (by decide +kernel) rfl ?_
      exact ms_iret (by decide +kernel)
theorem l_M_whole_34 {sw : Bool} {w : mj_W} (hw : wk sw w) (f : mj_F) (x1 : Int) (x2 : Int) (x3 : Int) (x4 : Int)  : mj_run yM_whole w f 34 [.inr (.inl 223), .inl x1, .inl x2, .inl x3, .inl x4, .inr (.inr (.inr 0)), .inr (.inr (.inr 0)), .inr (.inr (.inr 0))] [] = if (f 223 2) ≤ x4 then mj_run yM_whole w (mj_u f 253 (0 : Int).toNat 0) 68 [.inr (.inl 223), .inl x1, .inl x2, .inl x3, .inl 0, .inl 0, .inr (.inr (.inr 0)), .inr (.inr (.inr 0))] [] else mj_run yM_whole w f 34 [.inr (.inl 223), .inl x1, .inl x2, .inl (mj_w (x3 * (mj_w (x2 + 1)))), .inl (mj_w (x4 + 1)), .inr (.inr (.inr 0)), .inr (.inr (.inr 0)), .inr (.inr (.inr 0))] [] := by
  refine ms_iload (k := 4) (p' := 36) (by decide +kernel) rfl rfl ?_
  refine ms_aload_n (k := 0) (p' := 37) (by decide +kernel) rfl rfl ?_
  refine ms_geti (idx := 242) (ci := 9) (k := 2) (q := 1393) (p' := 40) (by decide +kernel) rfl (k_223 hw) ?_
  refine ms_icmp_ge (off := 15) (t := 55) (p' := 43) (by decide +kernel) rfl (fun hc => ?_) (fun hc => ?_)
  · refine ms_iconst (n := 0) (v := 0) (p' := 56) (by decide +kernel) rfl ?_
    refine ms_istore (k := 4) (ls' := [.inr (.inl 223), .inl x1, .inl x2, .inl x3, .inl 0, .inr (.inr (.inr 0)), .inr (.inr (.inr 0)), .inr (.inr (.inr 0))]) (p' := 58) (by decide +kernel) rfl (Nat.le_of_ble_eq_true rfl) rfl ?_
    refine ms_aload_n (k := 0) (p' := 59) (by decide +kernel) rfl rfl ?_
    refine ms_getr (idx := 105) (ci := 9) (k := 54) (q := 1445) (p' := 62) (by decide +kernel) rfl (k_223 hw) (r_223_54 hw) (by decide) ?_
    refine ms_iconst (n := 0) (v := 0) (p' := 63) (by decide +kernel) rfl ?_
    refine ms_iconst (n := 0) (v := 0) (p' := 64) (by decide +kernel) rfl ?_
    refine Eq.trans (ms_iast (p' := 65) (by decide +kernel) rfl (k_253 hw) (fun hj6 => ?_)) (mj_gd_pos (by decide) _)
    refine ms_iconst (n := 0) (v := 0) (p' := 66) (by decide +kernel) rfl ?_
    refine ms_istore (k := 5) (ls' := [.inr (.inl 223), .inl x1, .inl x2, .inl x3, .inl 0, .inl 0, .inr (.inr (.inr 0)), .inr (.inr (.inr 0))]) (p' := 68) (by decide +kernel) rfl (Nat.le_of_ble_eq_true rfl) rfl ?_
    rfl
  · refine ms_iload_n (k := 3) (p' := 44) (by decide +kernel) rfl rfl ?_
    refine ms_iload_n (k := 2) (p' := 45) (by decide +kernel) rfl rfl ?_
    refine ms_iconst (n := 1) (v := 1) (p' := 46) (by decide +kernel) rfl ?_
    refine ms_iadd (p' := 47) (by decide +kernel) rfl ?_
    refine ms_imul (p' := 48) (by decide +kernel) rfl ?_
    refine ms_istore_n (k := 3) (ls' := [.inr (.inl 223), .inl x1, .inl x2, .inl (mj_w (x3 * (mj_w (x2 + 1)))), .inl x4, .inr (.inr (.inr 0)), .inr (.inr (.inr 0)), .inr (.inr (.inr 0))]) (p' := 49) (by decide +kernel) rfl (Nat.le_of_ble_eq_true rfl) rfl ?_
    refine ms_iinc (k := 4) (n := 1) (ls' := [.inr (.inl 223), .inl x1, .inl x2, .inl (mj_w (x3 * (mj_w (x2 + 1)))), .inl (mj_w (x4 + 1)), .inr (.inr (.inr 0)), .inr (.inr (.inr 0)), .inr (.inr (.inr 0))]) (p' := 52) (by decide +kernel) rfl rfl rfl ?_
    refine ms_goto (off := (-18)) (p' := 34) (by decide +kernel) ?_
    rfl
theorem l_M_whole_68 {sw : Bool} {w : mj_W} (hw : wk sw w) (f : mj_F) (x1 : Int) (x2 : Int) (x3 : Int) (x4 : Int) (x5 : Int) (u6 : mj_V) (u7 : mj_V)  : mj_run yM_whole w f 68 [.inr (.inl 223), .inl x1, .inl x2, .inl x3, .inl x4, .inl x5, u6, u7] [] = if x3 ≤ x5 then some (w, f, some (.inl x4)) else mj_run yM_whole w f 81 [.inr (.inl 223), .inl x1, .inl x2, .inl x3, .inl x4, .inl x5, .inl x5, .inl 1] [] := by
  refine ms_iload (k := 5) (p' := 70) (by decide +kernel) rfl rfl ?_
  refine ms_iload_n (k := 3) (p' := 71) (by decide +kernel) rfl rfl ?_
  refine ms_icmp_ge (off := 70) (t := 141) (p' := 74) (by decide +kernel) rfl (fun hc => ?_) (fun hc => ?_)
  · refine ms_iload (k := 4) (p' := 143) (by decide +kernel) rfl rfl ?_
    exact ms_iret (by decide +kernel)
  · refine ms_iload (k := 5) (p' := 76) (by decide +kernel) rfl rfl ?_
    refine ms_istore (k := 6) (ls' := [.inr (.inl 223), .inl x1, .inl x2, .inl x3, .inl x4, .inl x5, .inl x5, u7]) (p' := 78) (by decide +kernel) rfl (Nat.le_of_ble_eq_true rfl) rfl ?_
    refine ms_iconst (n := 1) (v := 1) (p' := 79) (by decide +kernel) rfl ?_
    refine ms_istore (k := 7) (ls' := [.inr (.inl 223), .inl x1, .inl x2, .inl x3, .inl x4, .inl x5, .inl x5, .inl 1]) (p' := 81) (by decide +kernel) rfl (Nat.le_of_ble_eq_true rfl) rfl ?_
    rfl
theorem l_M_whole_81 {sw : Bool} {w : mj_W} (hw : wk sw w) (f : mj_F) (x1 : Int) (x2 : Int) (x3 : Int) (x4 : Int) (x5 : Int) (x6 : Int) (x7 : Int)  : mj_run yM_whole w f 81 [.inr (.inl 223), .inl x1, .inl x2, .inl x3, .inl x4, .inl x5, .inl x6, .inl x7] [] = if (f 223 2) < x7 then mj_bi (mj_call yM_hasTimes w f [.inr (.inl 223), .inl 1]) (fun f7 v8 => if v8 = 0 then mj_run yM_whole w f7 68 [.inr (.inl 223), .inl x1, .inl x2, .inl x3, .inl (mj_w (x4 + 0)), .inl (mj_w (x5 + 1)), .inl x6, .inl x7] [] else mj_run yM_whole w f7 68 [.inr (.inl 223), .inl x1, .inl x2, .inl x3, .inl (mj_w (x4 + 1)), .inl (mj_w (x5 + 1)), .inl x6, .inl x7] []) else mj_gd (¬ (mj_w (x2 + 1)) = 0) (mj_gd (0 ≤ x7 ∧ x7 < ((5 : Nat) : Int)) (mj_gd (¬ (mj_w (x2 + 1)) = 0) (mj_run yM_whole w (mj_u f 253 x7.toNat (mj_rem x6 (mj_w (x2 + 1)))) 81 [.inr (.inl 223), .inl x1, .inl x2, .inl x3, .inl x4, .inl x5, .inl (mj_div x6 (mj_w (x2 + 1))), .inl (mj_w (x7 + 1))] []))) := by
  refine ms_iload (k := 7) (p' := 83) (by decide +kernel) rfl rfl ?_
  refine ms_aload_n (k := 0) (p' := 84) (by decide +kernel) rfl rfl ?_
  refine ms_geti (idx := 242) (ci := 9) (k := 2) (q := 1393) (p' := 87) (by decide +kernel) rfl (k_223 hw) ?_
  refine ms_icmp_gt (off := 30) (t := 117) (p' := 90) (by decide +kernel) rfl (fun hc => ?_) (fun hc => ?_)
  · refine ms_iload (k := 4) (p' := 119) (by decide +kernel) rfl rfl ?_
    refine ms_aload_n (k := 0) (p' := 120) (by decide +kernel) rfl rfl ?_
    refine ms_iconst (n := 1) (v := 1) (p' := 121) (by decide +kernel) rfl ?_
    refine ms_virt_i (idx := 387) (cy := yM_hasTimes) (n := 1) (a := 223) (as := [.inl 1]) (rest := [.inl x4]) (p' := 124) (by decide +kernel) rfl rfl rfl rfl (k_223 hw) rfl (fun f7 v8 => ?_)
    refine ms_if_eq (off := 7) (t := 131) (p' := 127) (by decide +kernel) rfl (fun hc => ?_) (fun hc => ?_)
    · refine ms_iconst (n := 0) (v := 0) (p' := 132) (by decide +kernel) rfl ?_
      refine ms_iadd (p' := 133) (by decide +kernel) rfl ?_
      refine ms_istore (k := 4) (ls' := [.inr (.inl 223), .inl x1, .inl x2, .inl x3, .inl (mj_w (x4 + 0)), .inl x5, .inl x6, .inl x7]) (p' := 135) (by decide +kernel) rfl (Nat.le_of_ble_eq_true rfl) rfl ?_
      refine ms_iinc (k := 5) (n := 1) (ls' := [.inr (.inl 223), .inl x1, .inl x2, .inl x3, .inl (mj_w (x4 + 0)), .inl (mj_w (x5 + 1)), .inl x6, .inl x7]) (p' := 138) (by decide +kernel) rfl rfl rfl ?_
      refine ms_goto (off := (-70)) (p' := 68) (by decide +kernel) ?_
      rfl
    · refine ms_iconst (n := 1) (v := 1) (p' := 128) (by decide +kernel) rfl ?_
      refine ms_goto (off := 4) (p' := 132) (by decide +kernel) ?_
      refine ms_iadd (p' := 133) (by decide +kernel) rfl ?_
      refine ms_istore (k := 4) (ls' := [.inr (.inl 223), .inl x1, .inl x2, .inl x3, .inl (mj_w (x4 + 1)), .inl x5, .inl x6, .inl x7]) (p' := 135) (by decide +kernel) rfl (Nat.le_of_ble_eq_true rfl) rfl ?_
      refine ms_iinc (k := 5) (n := 1) (ls' := [.inr (.inl 223), .inl x1, .inl x2, .inl x3, .inl (mj_w (x4 + 1)), .inl (mj_w (x5 + 1)), .inl x6, .inl x7]) (p' := 138) (by decide +kernel) rfl rfl rfl ?_
      refine ms_goto (off := (-70)) (p' := 68) (by decide +kernel) ?_
      rfl
  · refine ms_aload_n (k := 0) (p' := 91) (by decide +kernel) rfl rfl ?_
    refine ms_getr (idx := 105) (ci := 9) (k := 54) (q := 1445) (p' := 94) (by decide +kernel) rfl (k_223 hw) (r_223_54 hw) (by decide) ?_
    refine ms_iload (k := 7) (p' := 96) (by decide +kernel) rfl rfl ?_
    refine ms_iload (k := 6) (p' := 98) (by decide +kernel) rfl rfl ?_
    refine ms_iload_n (k := 2) (p' := 99) (by decide +kernel) rfl rfl ?_
    refine ms_iconst (n := 1) (v := 1) (p' := 100) (by decide +kernel) rfl ?_
    refine ms_iadd (p' := 101) (by decide +kernel) rfl ?_
    refine ms_irem (p' := 102) (by decide +kernel) rfl (fun hd => ?_)
    refine ms_iast (p' := 103) (by decide +kernel) rfl (k_253 hw) (fun hj9 => ?_)
    refine ms_iload (k := 6) (p' := 105) (by decide +kernel) rfl rfl ?_
    refine ms_iload_n (k := 2) (p' := 106) (by decide +kernel) rfl rfl ?_
    refine ms_iconst (n := 1) (v := 1) (p' := 107) (by decide +kernel) rfl ?_
    refine ms_iadd (p' := 108) (by decide +kernel) rfl ?_
    refine ms_idiv (p' := 109) (by decide +kernel) rfl (fun hd => ?_)
    refine ms_istore (k := 6) (ls' := [.inr (.inl 223), .inl x1, .inl x2, .inl x3, .inl x4, .inl x5, .inl (mj_div x6 (mj_w (x2 + 1))), .inl x7]) (p' := 111) (by decide +kernel) rfl (Nat.le_of_ble_eq_true rfl) rfl ?_
    refine ms_iinc (k := 7) (n := 1) (ls' := [.inr (.inl 223), .inl x1, .inl x2, .inl x3, .inl x4, .inl x5, .inl (mj_div x6 (mj_w (x2 + 1))), .inl (mj_w (x7 + 1))]) (p' := 114) (by decide +kernel) rfl rfl rfl ?_
    refine ms_goto (off := (-33)) (p' := 81) (by decide +kernel) ?_
    rfl
theorem c_M_wholes {sw : Bool} {w : mj_W} (hw : wk sw w) (f : mj_F)   : mj_call yM_wholes w f [.inr (.inl 223)] = mj_run yM_wholes w f 2 [.inr (.inl 223), .inl 0, .inr (.inr (.inr 0))] [] := by
  show mj_run yM_wholes w f 0 [.inr (.inl 223), .inr (.inr (.inr 0)), .inr (.inr (.inr 0))] [] = _
  refine ms_iconst (n := 0) (v := 0) (p' := 1) (by decide +kernel) rfl ?_
  refine ms_istore_n (k := 1) (ls' := [.inr (.inl 223), .inl 0, .inr (.inr (.inr 0))]) (p' := 2) (by decide +kernel) rfl (Nat.le_of_ble_eq_true rfl) rfl ?_
  rfl
theorem l_M_wholes_2 {sw : Bool} {w : mj_W} (hw : wk sw w) (f : mj_F) (x1 : Int) (u2 : mj_V)  : mj_run yM_wholes w f 2 [.inr (.inl 223), .inl x1, u2] [] = if (f 223 52) ≤ x1 then mj_bu (mj_call yM_closes w f [.inr (.inl 223)]) (fun f1 => some (w, f1, none)) else mj_run yM_wholes w f 12 [.inr (.inl 223), .inl x1, .inl 0] [] := by
  refine ms_iload_n (k := 1) (p' := 3) (by decide +kernel) rfl rfl ?_
  refine ms_aload_n (k := 0) (p' := 4) (by decide +kernel) rfl rfl ?_
  refine ms_geti (idx := 280) (ci := 9) (k := 52) (q := 1443) (p' := 7) (by decide +kernel) rfl (k_223 hw) ?_
  refine ms_icmp_ge (off := 62) (t := 69) (p' := 10) (by decide +kernel) rfl (fun hc => ?_) (fun hc => ?_)
  · refine ms_aload_n (k := 0) (p' := 70) (by decide +kernel) rfl rfl ?_
    refine ms_virt_u (idx := 300) (cy := yM_closes) (n := 0) (a := 223) (as := []) (rest := []) (p' := 73) (by decide +kernel) rfl rfl rfl rfl (k_223 hw) rfl (fun f1 => ?_)
    exact ms_vret (by decide +kernel)
  · refine ms_iconst (n := 0) (v := 0) (p' := 11) (by decide +kernel) rfl ?_
    refine ms_istore_n (k := 2) (ls' := [.inr (.inl 223), .inl x1, .inl 0]) (p' := 12) (by decide +kernel) rfl (Nat.le_of_ble_eq_true rfl) rfl ?_
    rfl
theorem l_M_wholes_12 {sw : Bool} {w : mj_W} (hw : wk sw w) (f : mj_F) (x1 : Int) (x2 : Int)  : mj_run yM_wholes w f 12 [.inr (.inl 223), .inl x1, .inl x2] [] = if (f 223 52) ≤ x2 then mj_run yM_wholes w f 2 [.inr (.inl 223), .inl (mj_w (x1 + 1)), .inl x2] [] else mj_bi (mj_call yM_get w f [.inr (.inl 223), .inl x1, .inl x2]) (fun f2 v3 => if 1000000 ≤ v3 then mj_run yM_wholes w f2 12 [.inr (.inl 223), .inl x1, .inl (mj_w (x2 + 1))] [] else mj_bi (mj_call yM_get w f2 [.inr (.inl 223), .inl x1, .inl x2]) (fun f4 v5 => if ¬ (mj_and v5 1) = 0 then mj_run yM_wholes w f4 12 [.inr (.inl 223), .inl x1, .inl (mj_w (x2 + 1))] [] else mj_bi (mj_call yM_get w f4 [.inr (.inl 223), .inl x1, .inl x2]) (fun f6 v7 => mj_bu (mj_call yM_put w f6 [.inr (.inl 223), .inl x1, .inl x2, .inl (mj_w (v7 - 1))]) (fun f8 => mj_run yM_wholes w f8 12 [.inr (.inl 223), .inl x1, .inl (mj_w (x2 + 1))] [])))) := by
  refine ms_iload_n (k := 2) (p' := 13) (by decide +kernel) rfl rfl ?_
  refine ms_aload_n (k := 0) (p' := 14) (by decide +kernel) rfl rfl ?_
  refine ms_geti (idx := 280) (ci := 9) (k := 52) (q := 1443) (p' := 17) (by decide +kernel) rfl (k_223 hw) ?_
  refine ms_icmp_ge (off := 46) (t := 63) (p' := 20) (by decide +kernel) rfl (fun hc => ?_) (fun hc => ?_)
  · refine ms_iinc (k := 1) (n := 1) (ls' := [.inr (.inl 223), .inl (mj_w (x1 + 1)), .inl x2]) (p' := 66) (by decide +kernel) rfl rfl rfl ?_
    refine ms_goto (off := (-64)) (p' := 2) (by decide +kernel) ?_
    rfl
  · refine ms_aload_n (k := 0) (p' := 21) (by decide +kernel) rfl rfl ?_
    refine ms_iload_n (k := 1) (p' := 22) (by decide +kernel) rfl rfl ?_
    refine ms_iload_n (k := 2) (p' := 23) (by decide +kernel) rfl rfl ?_
    refine ms_virt_i (idx := 272) (cy := yM_get) (n := 2) (a := 223) (as := [.inl x1, .inl x2]) (rest := []) (p' := 26) (by decide +kernel) rfl rfl rfl rfl (k_223 hw) rfl (fun f2 v3 => ?_)
    refine ms_ldc_w (idx := 271) (v := 1000000) (p' := 29) (by decide +kernel) rfl ?_
    refine ms_icmp_ge (off := 28) (t := 57) (p' := 32) (by decide +kernel) rfl (fun hc => ?_) (fun hc => ?_)
    · refine ms_iinc (k := 2) (n := 1) (ls' := [.inr (.inl 223), .inl x1, .inl (mj_w (x2 + 1))]) (p' := 60) (by decide +kernel) rfl rfl rfl ?_
      refine ms_goto (off := (-48)) (p' := 12) (by decide +kernel) ?_
      rfl
    · refine ms_aload_n (k := 0) (p' := 33) (by decide +kernel) rfl rfl ?_
      refine ms_iload_n (k := 1) (p' := 34) (by decide +kernel) rfl rfl ?_
      refine ms_iload_n (k := 2) (p' := 35) (by decide +kernel) rfl rfl ?_
      refine ms_virt_i (idx := 272) (cy := yM_get) (n := 2) (a := 223) (as := [.inl x1, .inl x2]) (rest := []) (p' := 38) (by decide +kernel) rfl rfl rfl rfl (k_223 hw) rfl (fun f4 v5 => ?_)
      refine ms_iconst (n := 1) (v := 1) (p' := 39) (by decide +kernel) rfl ?_
      refine ms_iand (p' := 40) (by decide +kernel) rfl ?_
      refine ms_if_ne (off := 17) (t := 57) (p' := 43) (by decide +kernel) rfl (fun hc => ?_) (fun hc => ?_)
      · refine ms_iinc (k := 2) (n := 1) (ls' := [.inr (.inl 223), .inl x1, .inl (mj_w (x2 + 1))]) (p' := 60) (by decide +kernel) rfl rfl rfl ?_
        refine ms_goto (off := (-48)) (p' := 12) (by decide +kernel) ?_
        rfl
      · refine ms_aload_n (k := 0) (p' := 44) (by decide +kernel) rfl rfl ?_
        refine ms_iload_n (k := 1) (p' := 45) (by decide +kernel) rfl rfl ?_
        refine ms_iload_n (k := 2) (p' := 46) (by decide +kernel) rfl rfl ?_
        refine ms_aload_n (k := 0) (p' := 47) (by decide +kernel) rfl rfl ?_
        refine ms_iload_n (k := 1) (p' := 48) (by decide +kernel) rfl rfl ?_
        refine ms_iload_n (k := 2) (p' := 49) (by decide +kernel) rfl rfl ?_
        refine ms_virt_i (idx := 272) (cy := yM_get) (n := 2) (a := 223) (as := [.inl x1, .inl x2]) (rest := [.inl x2, .inl x1, .inr (.inl 223)]) (p' := 52) (by decide +kernel) rfl rfl rfl rfl (k_223 hw) rfl (fun f6 v7 => ?_)
        refine ms_iconst (n := 1) (v := 1) (p' := 53) (by decide +kernel) rfl ?_
        refine ms_isub (p' := 54) (by decide +kernel) rfl ?_
        refine ms_virt_u (idx := 276) (cy := yM_put) (n := 3) (a := 223) (as := [.inl x1, .inl x2, .inl (mj_w (v7 - 1))]) (rest := []) (p' := 57) (by decide +kernel) rfl rfl rfl rfl (k_223 hw) rfl (fun f8 => ?_)
        refine ms_iinc (k := 2) (n := 1) (ls' := [.inr (.inl 223), .inl x1, .inl (mj_w (x2 + 1))]) (p' := 60) (by decide +kernel) rfl rfl rfl ?_
        refine ms_goto (off := (-48)) (p' := 12) (by decide +kernel) ?_
        rfl
theorem c_M_first {sw : Bool} {w : mj_W} (hw : wk sw w) (f : mj_F) (x1 : Int) (x2 : Int)  : mj_call yM_first w f [.inr (.inl 223), .inl x1, .inl x2] = mj_bi (mj_call yM_isTable w (mj_u f 223 0 0) [.inl x1]) (fun f1 v2 => if v2 = 0 then some (w, f1, some (.inl (-1))) else mj_bi (mj_call yM_isClock w f1 [.inr (.inl 223), .inl x2]) (fun f3 v4 => if ¬ v4 = 0 then mj_bu (mj_call yM_loads w f3 [.inr (.inl 223), .inl x1]) (fun f5 => mj_run yM_first w f5 29 [.inr (.inl 223), .inl x1, .inl x2, .inl 1] []) else some (w, f3, some (.inl (-1))))) := by
  show mj_run yM_first w f 0 [.inr (.inl 223), .inl x1, .inl x2, .inr (.inr (.inr 0))] [] = _
  refine ms_aload_n (k := 0) (p' := 1) (by decide +kernel) rfl rfl ?_
  refine ms_iconst (n := 0) (v := 0) (p' := 2) (by decide +kernel) rfl ?_
  refine ms_puti (idx := 1) (ci := 9) (k := 0) (q := 1391) (p' := 5) (by decide +kernel) rfl (k_223 hw) ?_
  refine ms_iload_n (k := 1) (p' := 6) (by decide +kernel) rfl rfl ?_
  refine ms_stat_i (idx := 327) (cy := yM_isTable) (n := 1) (as := [.inl x1]) (rest := []) (p' := 9) (by decide +kernel) rfl rfl rfl rfl rfl (fun f1 v2 => ?_)
  refine ms_if_eq (off := 11) (t := 20) (p' := 12) (by decide +kernel) rfl (fun hc => ?_) (fun hc => ?_)
  · refine ms_iconst (n := (-1)) (v := (-1)) (p' := 21) (by decide +kernel) rfl ?_
    exact ms_iret (by decide +kernel)
  · refine ms_aload_n (k := 0) (p' := 13) (by decide +kernel) rfl rfl ?_
    refine ms_iload_n (k := 2) (p' := 14) (by decide +kernel) rfl rfl ?_
    refine ms_virt_i (idx := 349) (cy := yM_isClock) (n := 1) (a := 223) (as := [.inl x2]) (rest := []) (p' := 17) (by decide +kernel) rfl rfl rfl rfl (k_223 hw) rfl (fun f3 v4 => ?_)
    refine ms_if_ne (off := 5) (t := 22) (p' := 20) (by decide +kernel) rfl (fun hc => ?_) (fun hc => ?_)
    · refine ms_aload_n (k := 0) (p' := 23) (by decide +kernel) rfl rfl ?_
      refine ms_iload_n (k := 1) (p' := 24) (by decide +kernel) rfl rfl ?_
      refine ms_virt_u (idx := 340) (cy := yM_loads) (n := 1) (a := 223) (as := [.inl x1]) (rest := []) (p' := 27) (by decide +kernel) rfl rfl rfl rfl (k_223 hw) rfl (fun f5 => ?_)
      refine ms_iconst (n := 1) (v := 1) (p' := 28) (by decide +kernel) rfl ?_
      refine ms_istore_n (k := 3) (ls' := [.inr (.inl 223), .inl x1, .inl x2, .inl 1]) (p' := 29) (by decide +kernel) rfl (Nat.le_of_ble_eq_true rfl) rfl ?_
      rfl
    · refine ms_iconst (n := (-1)) (v := (-1)) (p' := 21) (by decide +kernel) rfl ?_
      exact ms_iret (by decide +kernel)
theorem l_M_first_29 {sw : Bool} {w : mj_W} (hw : wk sw w) (f : mj_F) (x1 : Int) (x2 : Int) (x3 : Int)  : mj_run yM_first w f 29 [.inr (.inl 223), .inl x1, .inl x2, .inl x3] [] = if (f 223 52) ≤ x3 then mj_bu (mj_call yM_wholes w f [.inr (.inl 223)]) (fun f6 => if (f6 223 53) = 0 then mj_bi (mj_call yM_get w f6 [.inr (.inl 223), .inl 0, .inl (mj_w (x2 + 1))]) (fun f7 v8 => mj_bi (mj_call yM_numberOf w f7 [.inl v8]) (fun f9 v10 => some (w, f9, some (.inl (mj_w (-v10)))))) else some (w, f6, some (.inl (-2)))) else mj_bi (mj_call yM_reachedS w f [.inl 100]) (fun f11 v12 => mj_bu (mj_call yM_tightens w f11 [.inr (.inl 223), .inl x3, .inl 0, .inl v12]) (fun f13 => mj_run yM_first w f13 29 [.inr (.inl 223), .inl x1, .inl x2, .inl (mj_w (x3 + 1))] [])) := by
  refine ms_iload_n (k := 3) (p' := 30) (by decide +kernel) rfl rfl ?_
  refine ms_aload_n (k := 0) (p' := 31) (by decide +kernel) rfl rfl ?_
  refine ms_geti (idx := 280) (ci := 9) (k := 52) (q := 1443) (p' := 34) (by decide +kernel) rfl (k_223 hw) ?_
  refine ms_icmp_ge (off := 20) (t := 54) (p' := 37) (by decide +kernel) rfl (fun hc => ?_) (fun hc => ?_)
  · refine ms_aload_n (k := 0) (p' := 55) (by decide +kernel) rfl rfl ?_
    refine ms_virt_u (idx := 393) (cy := yM_wholes) (n := 0) (a := 223) (as := []) (rest := []) (p' := 58) (by decide +kernel) rfl rfl rfl rfl (k_223 hw) rfl (fun f6 => ?_)
    refine ms_aload_n (k := 0) (p' := 59) (by decide +kernel) rfl rfl ?_
    refine ms_geti (idx := 289) (ci := 9) (k := 53) (q := 1444) (p' := 62) (by decide +kernel) rfl (k_223 hw) ?_
    refine ms_if_eq (off := 8) (t := 70) (p' := 65) (by decide +kernel) rfl (fun hc => ?_) (fun hc => ?_)
    · refine ms_aload_n (k := 0) (p' := 71) (by decide +kernel) rfl rfl ?_
      refine ms_iconst (n := 0) (v := 0) (p' := 72) (by decide +kernel) rfl ?_
      refine ms_iload_n (k := 2) (p' := 73) (by decide +kernel) rfl rfl ?_
      refine ms_iconst (n := 1) (v := 1) (p' := 74) (by decide +kernel) rfl ?_
      refine ms_iadd (p' := 75) (by decide +kernel) rfl ?_
      refine ms_virt_i (idx := 272) (cy := yM_get) (n := 2) (a := 223) (as := [.inl 0, .inl (mj_w (x2 + 1))]) (rest := []) (p' := 78) (by decide +kernel) rfl rfl rfl rfl (k_223 hw) rfl (fun f7 v8 => ?_)
      refine ms_stat_i (idx := 318) (cy := yM_numberOf) (n := 1) (as := [.inl v8]) (rest := []) (p' := 81) (by decide +kernel) rfl rfl rfl rfl rfl (fun f9 v10 => ?_)
      refine ms_ineg (p' := 82) (by decide +kernel) rfl ?_
      exact ms_iret (by decide +kernel)
    · refine ms_bipush (n := (-2)) (v := (-2)) (p' := 67) (by decide +kernel) rfl ?_
      refine ms_goto (off := 15) (p' := 82) (by decide +kernel) ?_
      exact ms_iret (by decide +kernel)
  · refine ms_aload_n (k := 0) (p' := 38) (by decide +kernel) rfl rfl ?_
    refine ms_iload_n (k := 3) (p' := 39) (by decide +kernel) rfl rfl ?_
    refine ms_iconst (n := 0) (v := 0) (p' := 40) (by decide +kernel) rfl ?_
    refine ms_bipush (n := 100) (v := 100) (p' := 42) (by decide +kernel) rfl ?_
    refine ms_stat_i (idx := 292) (cy := yM_reachedS) (n := 1) (as := [.inl 100]) (rest := [.inl 0, .inl x3, .inr (.inl 223)]) (p' := 45) (by decide +kernel) rfl rfl rfl rfl rfl (fun f11 v12 => ?_)
    refine ms_virt_u (idx := 286) (cy := yM_tightens) (n := 3) (a := 223) (as := [.inl x3, .inl 0, .inl v12]) (rest := []) (p' := 48) (by decide +kernel) rfl rfl rfl rfl (k_223 hw) rfl (fun f13 => ?_)
    refine ms_iinc (k := 3) (n := 1) (ls' := [.inr (.inl 223), .inl x1, .inl x2, .inl (mj_w (x3 + 1))]) (p' := 51) (by decide +kernel) rfl rfl rfl ?_
    refine ms_goto (off := (-22)) (p' := 29) (by decide +kernel) ?_
    rfl
theorem c_M_nodes {sw : Bool} {w : mj_W} (hw : wk sw w) (f : mj_F)   : mj_call yM_nodes w f [.inr (.inl 223)] = some (w, (mj_u f 223 0 0), some (.inl (mj_u f 223 0 0 223 23))) := by
  show mj_run yM_nodes w f 0 [.inr (.inl 223)] [] = _
  refine ms_aload_n (k := 0) (p' := 1) (by decide +kernel) rfl rfl ?_
  refine ms_iconst (n := 0) (v := 0) (p' := 2) (by decide +kernel) rfl ?_
  refine ms_puti (idx := 1) (ci := 9) (k := 0) (q := 1391) (p' := 5) (by decide +kernel) rfl (k_223 hw) ?_
  refine ms_aload_n (k := 0) (p' := 6) (by decide +kernel) rfl rfl ?_
  refine ms_geti (idx := 374) (ci := 9) (k := 23) (q := 1414) (p' := 9) (by decide +kernel) rfl (k_223 hw) ?_
  exact ms_iret (by decide +kernel)
theorem c_M_depth {sw : Bool} {w : mj_W} (hw : wk sw w) (f : mj_F) (x1 : Int)  : mj_call yM_depth w f [.inr (.inl 223), .inl x1] = mj_run yM_depth w f 4 [.inr (.inl 223), .inl x1, .inl 0, .inl x1] [] := by
  show mj_run yM_depth w f 0 [.inr (.inl 223), .inl x1, .inr (.inr (.inr 0)), .inr (.inr (.inr 0))] [] = _
  refine ms_iconst (n := 0) (v := 0) (p' := 1) (by decide +kernel) rfl ?_
  refine ms_istore_n (k := 2) (ls' := [.inr (.inl 223), .inl x1, .inl 0, .inr (.inr (.inr 0))]) (p' := 2) (by decide +kernel) rfl (Nat.le_of_ble_eq_true rfl) rfl ?_
  refine ms_iload_n (k := 1) (p' := 3) (by decide +kernel) rfl rfl ?_
  refine ms_istore_n (k := 3) (ls' := [.inr (.inl 223), .inl x1, .inl 0, .inl x1]) (p' := 4) (by decide +kernel) rfl (Nat.le_of_ble_eq_true rfl) rfl ?_
  rfl
theorem l_M_depth_4 {sw : Bool} {w : mj_W} (hw : wk sw w) (f : mj_F) (x1 : Int) (x2 : Int) (x3 : Int)  : mj_run yM_depth w f 4 [.inr (.inl 223), .inl x1, .inl x2, .inl x3] [] = mj_gd (0 ≤ x3 ∧ x3 < ((60 : Nat) : Int)) (if (f 237 x3.toNat) = (-2) then some (w, f, some (.inl x2)) else mj_gd (0 ≤ x3 ∧ x3 < ((60 : Nat) : Int)) (mj_run yM_depth w f 4 [.inr (.inl 223), .inl x1, .inl (mj_w (x2 + 1)), .inl (f 237 x3.toNat)] [])) := by
  refine ms_aload_n (k := 0) (p' := 5) (by decide +kernel) rfl rfl ?_
  refine ms_getr (idx := 53) (ci := 9) (k := 20) (q := 1411) (p' := 8) (by decide +kernel) rfl (k_223 hw) (r_223_20 hw) (by decide) ?_
  refine ms_iload_n (k := 3) (p' := 9) (by decide +kernel) rfl rfl ?_
  refine ms_iald (p' := 10) (by decide +kernel) rfl (k_237 hw) (fun hj1 => ?_)
  refine ms_bipush (n := (-2)) (v := (-2)) (p' := 12) (by decide +kernel) rfl ?_
  refine ms_icmp_eq (off := 16) (t := 28) (p' := 15) (by decide +kernel) rfl (fun hc => ?_) (fun hc => ?_)
  · refine ms_iload_n (k := 2) (p' := 29) (by decide +kernel) rfl rfl ?_
    exact ms_iret (by decide +kernel)
  · refine ms_iinc (k := 2) (n := 1) (ls' := [.inr (.inl 223), .inl x1, .inl (mj_w (x2 + 1)), .inl x3]) (p' := 18) (by decide +kernel) rfl rfl rfl ?_
    refine ms_aload_n (k := 0) (p' := 19) (by decide +kernel) rfl rfl ?_
    refine ms_getr (idx := 53) (ci := 9) (k := 20) (q := 1411) (p' := 22) (by decide +kernel) rfl (k_223 hw) (r_223_20 hw) (by decide) ?_
    refine ms_iload_n (k := 3) (p' := 23) (by decide +kernel) rfl rfl ?_
    refine ms_iald (p' := 24) (by decide +kernel) rfl (k_237 hw) (fun hj2 => ?_)
    refine ms_istore_n (k := 3) (ls' := [.inr (.inl 223), .inl x1, .inl (mj_w (x2 + 1)), .inl (f 237 x3.toNat)]) (p' := 25) (by decide +kernel) rfl (Nat.le_of_ble_eq_true rfl) rfl ?_
    refine ms_goto (off := (-21)) (p' := 4) (by decide +kernel) ?_
    rfl
theorem c_M_node {sw : Bool} {w : mj_W} (hw : wk sw w) (f : mj_F) (x1 : Int) (x2 : Int)  : mj_call yM_node w f [.inr (.inl 223), .inl x1, .inl x2] = mj_bi (mj_call yM_isIn w (mj_u f 223 0 0) [.inl x2, .inl 0, .inl 3]) (fun f1 v2 => if ¬ v2 = 0 then mj_bi (mj_call yM_isIn w f1 [.inl x1, .inl 0, .inl (mj_w ((f1 223 23) - 1))]) (fun f3 v4 => if ¬ v4 = 0 then if ¬ x2 = 0 then if ¬ x2 = 1 then if ¬ x2 = 2 then mj_bi (mj_call yM_depth w f3 [.inr (.inl 223), .inl x1]) (fun f5 v6 => some (w, f5, some (.inl v6))) else mj_gd (0 ≤ x1 ∧ x1 < ((60 : Nat) : Int)) (some (w, f3, some (.inl (f3 238 x1.toNat)))) else mj_gd (0 ≤ x1 ∧ x1 < ((60 : Nat) : Int)) (some (w, f3, some (.inl (f3 237 x1.toNat)))) else mj_gd (0 ≤ x1 ∧ x1 < ((60 : Nat) : Int)) (some (w, f3, some (.inl (f3 236 x1.toNat)))) else some (w, f3, some (.inl (-3)))) else some (w, f1, some (.inl (-1)))) := by
  show mj_run yM_node w f 0 [.inr (.inl 223), .inl x1, .inl x2] [] = _
  refine ms_aload_n (k := 0) (p' := 1) (by decide +kernel) rfl rfl ?_
  refine ms_iconst (n := 0) (v := 0) (p' := 2) (by decide +kernel) rfl ?_
  refine ms_puti (idx := 1) (ci := 9) (k := 0) (q := 1391) (p' := 5) (by decide +kernel) rfl (k_223 hw) ?_
  refine ms_iload_n (k := 2) (p' := 6) (by decide +kernel) rfl rfl ?_
  refine ms_iconst (n := 0) (v := 0) (p' := 7) (by decide +kernel) rfl ?_
  refine ms_iconst (n := 3) (v := 3) (p' := 8) (by decide +kernel) rfl ?_
  refine ms_stat_i (idx := 158) (cy := yM_isIn) (n := 3) (as := [.inl x2, .inl 0, .inl 3]) (rest := []) (p' := 11) (by decide +kernel) rfl rfl rfl rfl rfl (fun f1 v2 => ?_)
  refine ms_if_ne (off := 5) (t := 16) (p' := 14) (by decide +kernel) rfl (fun hc => ?_) (fun hc => ?_)
  · refine ms_iload_n (k := 1) (p' := 17) (by decide +kernel) rfl rfl ?_
    refine ms_iconst (n := 0) (v := 0) (p' := 18) (by decide +kernel) rfl ?_
    refine ms_aload_n (k := 0) (p' := 19) (by decide +kernel) rfl rfl ?_
    refine ms_geti (idx := 374) (ci := 9) (k := 23) (q := 1414) (p' := 22) (by decide +kernel) rfl (k_223 hw) ?_
    refine ms_iconst (n := 1) (v := 1) (p' := 23) (by decide +kernel) rfl ?_
    refine ms_isub (p' := 24) (by decide +kernel) rfl ?_
    refine ms_stat_i (idx := 158) (cy := yM_isIn) (n := 3) (as := [.inl x1, .inl 0, .inl (mj_w ((f1 223 23) - 1))]) (rest := []) (p' := 27) (by decide +kernel) rfl rfl rfl rfl rfl (fun f3 v4 => ?_)
    refine ms_if_ne (off := 6) (t := 33) (p' := 30) (by decide +kernel) rfl (fun hc => ?_) (fun hc => ?_)
    · refine ms_iload_n (k := 2) (p' := 34) (by decide +kernel) rfl rfl ?_
      refine ms_if_ne (off := 12) (t := 46) (p' := 37) (by decide +kernel) rfl (fun hc => ?_) (fun hc => ?_)
      · refine ms_iload_n (k := 2) (p' := 47) (by decide +kernel) rfl rfl ?_
        refine ms_iconst (n := 1) (v := 1) (p' := 48) (by decide +kernel) rfl ?_
        refine ms_icmp_ne (off := 12) (t := 60) (p' := 51) (by decide +kernel) rfl (fun hc => ?_) (fun hc => ?_)
        · refine ms_iload_n (k := 2) (p' := 61) (by decide +kernel) rfl rfl ?_
          refine ms_iconst (n := 2) (v := 2) (p' := 62) (by decide +kernel) rfl ?_
          refine ms_icmp_ne (off := 12) (t := 74) (p' := 65) (by decide +kernel) rfl (fun hc => ?_) (fun hc => ?_)
          · refine ms_aload_n (k := 0) (p' := 75) (by decide +kernel) rfl rfl ?_
            refine ms_iload_n (k := 1) (p' := 76) (by decide +kernel) rfl rfl ?_
            refine ms_virt_i (idx := 408) (cy := yM_depth) (n := 1) (a := 223) (as := [.inl x1]) (rest := []) (p' := 79) (by decide +kernel) rfl rfl rfl rfl (k_223 hw) rfl (fun f5 v6 => ?_)
            exact ms_iret (by decide +kernel)
          · refine ms_aload_n (k := 0) (p' := 66) (by decide +kernel) rfl rfl ?_
            refine ms_getr (idx := 56) (ci := 9) (k := 21) (q := 1412) (p' := 69) (by decide +kernel) rfl (k_223 hw) (r_223_21 hw) (by decide) ?_
            refine ms_iload_n (k := 1) (p' := 70) (by decide +kernel) rfl rfl ?_
            refine ms_iald (p' := 71) (by decide +kernel) rfl (k_238 hw) (fun hj7 => ?_)
            refine ms_goto (off := 8) (p' := 79) (by decide +kernel) ?_
            exact ms_iret (by decide +kernel)
        · refine ms_aload_n (k := 0) (p' := 52) (by decide +kernel) rfl rfl ?_
          refine ms_getr (idx := 53) (ci := 9) (k := 20) (q := 1411) (p' := 55) (by decide +kernel) rfl (k_223 hw) (r_223_20 hw) (by decide) ?_
          refine ms_iload_n (k := 1) (p' := 56) (by decide +kernel) rfl rfl ?_
          refine ms_iald (p' := 57) (by decide +kernel) rfl (k_237 hw) (fun hj8 => ?_)
          refine ms_goto (off := 22) (p' := 79) (by decide +kernel) ?_
          exact ms_iret (by decide +kernel)
      · refine ms_aload_n (k := 0) (p' := 38) (by decide +kernel) rfl rfl ?_
        refine ms_getr (idx := 50) (ci := 9) (k := 19) (q := 1410) (p' := 41) (by decide +kernel) rfl (k_223 hw) (r_223_19 hw) (by decide) ?_
        refine ms_iload_n (k := 1) (p' := 42) (by decide +kernel) rfl rfl ?_
        refine ms_iald (p' := 43) (by decide +kernel) rfl (k_236 hw) (fun hj9 => ?_)
        refine ms_goto (off := 36) (p' := 79) (by decide +kernel) ?_
        exact ms_iret (by decide +kernel)
    · refine ms_bipush (n := (-3)) (v := (-3)) (p' := 32) (by decide +kernel) rfl ?_
      exact ms_iret (by decide +kernel)
  · refine ms_iconst (n := (-1)) (v := (-1)) (p' := 15) (by decide +kernel) rfl ?_
    exact ms_iret (by decide +kernel)
theorem c_M_nodeBound {sw : Bool} {w : mj_W} (hw : wk sw w) (f : mj_F) (x1 : Int) (x2 : Int) (x3 : Int) (x4 : Int)  : mj_call yM_nodeBound w f [.inr (.inl 223), .inl x1, .inl x2, .inl x3, .inl x4] = mj_bi (mj_call yM_isIn w (mj_u f 223 0 0) [.inl x1, .inl 0, .inl (mj_w ((mj_u f 223 0 0 223 23) - 1))]) (fun f1 v2 => if v2 = 0 then some (w, f1, some (.inl (-2000))) else mj_bi (mj_call yM_arePair w f1 [.inr (.inl 223), .inl x2, .inl x3]) (fun f3 v4 => if v4 = 0 then some (w, f3, some (.inl (-2000))) else mj_bi (mj_call yM_isTwo w f3 [.inl x4]) (fun f5 v6 => if ¬ v6 = 0 then mj_bu (mj_call yM_loadsNode w f5 [.inr (.inl 223), .inl x1]) (fun f7 => mj_bi (mj_call yM_get w f7 [.inr (.inl 223), .inl (mj_w (x2 + 1)), .inl (mj_w (x3 + 1))]) (fun f8 v9 => mj_bi (mj_call yM_told w f8 [.inr (.inl 223), .inl v9, .inl x4]) (fun f10 v11 => some (w, f10, some (.inl v11))))) else some (w, f5, some (.inl (-2000)))))) := by
  show mj_run yM_nodeBound w f 0 [.inr (.inl 223), .inl x1, .inl x2, .inl x3, .inl x4] [] = _
  refine ms_aload_n (k := 0) (p' := 1) (by decide +kernel) rfl rfl ?_
  refine ms_iconst (n := 0) (v := 0) (p' := 2) (by decide +kernel) rfl ?_
  refine ms_puti (idx := 1) (ci := 9) (k := 0) (q := 1391) (p' := 5) (by decide +kernel) rfl (k_223 hw) ?_
  refine ms_iload_n (k := 1) (p' := 6) (by decide +kernel) rfl rfl ?_
  refine ms_iconst (n := 0) (v := 0) (p' := 7) (by decide +kernel) rfl ?_
  refine ms_aload_n (k := 0) (p' := 8) (by decide +kernel) rfl rfl ?_
  refine ms_geti (idx := 374) (ci := 9) (k := 23) (q := 1414) (p' := 11) (by decide +kernel) rfl (k_223 hw) ?_
  refine ms_iconst (n := 1) (v := 1) (p' := 12) (by decide +kernel) rfl ?_
  refine ms_isub (p' := 13) (by decide +kernel) rfl ?_
  refine ms_stat_i (idx := 158) (cy := yM_isIn) (n := 3) (as := [.inl x1, .inl 0, .inl (mj_w ((mj_u f 223 0 0 223 23) - 1))]) (rest := []) (p' := 16) (by decide +kernel) rfl rfl rfl rfl rfl (fun f1 v2 => ?_)
  refine ms_if_eq (off := 20) (t := 36) (p' := 19) (by decide +kernel) rfl (fun hc => ?_) (fun hc => ?_)
  · refine ms_sipush (n := (-2000)) (v := (-2000)) (p' := 39) (by decide +kernel) rfl ?_
    exact ms_iret (by decide +kernel)
  · refine ms_aload_n (k := 0) (p' := 20) (by decide +kernel) rfl rfl ?_
    refine ms_iload_n (k := 2) (p' := 21) (by decide +kernel) rfl rfl ?_
    refine ms_iload_n (k := 3) (p' := 22) (by decide +kernel) rfl rfl ?_
    refine ms_virt_i (idx := 336) (cy := yM_arePair) (n := 2) (a := 223) (as := [.inl x2, .inl x3]) (rest := []) (p' := 25) (by decide +kernel) rfl rfl rfl rfl (k_223 hw) rfl (fun f3 v4 => ?_)
    refine ms_if_eq (off := 11) (t := 36) (p' := 28) (by decide +kernel) rfl (fun hc => ?_) (fun hc => ?_)
    · refine ms_sipush (n := (-2000)) (v := (-2000)) (p' := 39) (by decide +kernel) rfl ?_
      exact ms_iret (by decide +kernel)
    · refine ms_iload (k := 4) (p' := 30) (by decide +kernel) rfl rfl ?_
      refine ms_stat_i (idx := 343) (cy := yM_isTwo) (n := 1) (as := [.inl x4]) (rest := []) (p' := 33) (by decide +kernel) rfl rfl rfl rfl rfl (fun f5 v6 => ?_)
      refine ms_if_ne (off := 7) (t := 40) (p' := 36) (by decide +kernel) rfl (fun hc => ?_) (fun hc => ?_)
      · refine ms_aload_n (k := 0) (p' := 41) (by decide +kernel) rfl rfl ?_
        refine ms_iload_n (k := 1) (p' := 42) (by decide +kernel) rfl rfl ?_
        refine ms_virt_u (idx := 377) (cy := yM_loadsNode) (n := 1) (a := 223) (as := [.inl x1]) (rest := []) (p' := 45) (by decide +kernel) rfl rfl rfl rfl (k_223 hw) rfl (fun f7 => ?_)
        refine ms_aload_n (k := 0) (p' := 46) (by decide +kernel) rfl rfl ?_
        refine ms_aload_n (k := 0) (p' := 47) (by decide +kernel) rfl rfl ?_
        refine ms_iload_n (k := 2) (p' := 48) (by decide +kernel) rfl rfl ?_
        refine ms_iconst (n := 1) (v := 1) (p' := 49) (by decide +kernel) rfl ?_
        refine ms_iadd (p' := 50) (by decide +kernel) rfl ?_
        refine ms_iload_n (k := 3) (p' := 51) (by decide +kernel) rfl rfl ?_
        refine ms_iconst (n := 1) (v := 1) (p' := 52) (by decide +kernel) rfl ?_
        refine ms_iadd (p' := 53) (by decide +kernel) rfl ?_
        refine ms_virt_i (idx := 272) (cy := yM_get) (n := 2) (a := 223) (as := [.inl (mj_w (x2 + 1)), .inl (mj_w (x3 + 1))]) (rest := [.inr (.inl 223)]) (p' := 56) (by decide +kernel) rfl rfl rfl rfl (k_223 hw) rfl (fun f8 v9 => ?_)
        refine ms_iload (k := 4) (p' := 58) (by decide +kernel) rfl rfl ?_
        refine ms_virt_i (idx := 380) (cy := yM_told) (n := 2) (a := 223) (as := [.inl v9, .inl x4]) (rest := []) (p' := 61) (by decide +kernel) rfl rfl rfl rfl (k_223 hw) rfl (fun f10 v11 => ?_)
        exact ms_iret (by decide +kernel)
      · refine ms_sipush (n := (-2000)) (v := (-2000)) (p' := 39) (by decide +kernel) rfl ?_
        exact ms_iret (by decide +kernel)
theorem c_M_laysRoad {sw : Bool} {w : mj_W} (hw : wk sw w) (f : mj_F) (x1 : Int)  : mj_call yM_laysRoad w f [.inr (.inl 223), .inl x1] = mj_bi (mj_call yM_firstNode w f [.inr (.inl 223), .inl x1]) (fun f1 v2 => if ¬ v2 = (-2) then mj_bi (mj_call yM_depth w f1 [.inr (.inl 223), .inl v2]) (fun f3 v4 => mj_run yM_laysRoad w (mj_u f3 223 56 v4) 33 [.inr (.inl 223), .inl x1, .inl v2, .inl v2, .inl (mj_w ((mj_u f3 223 56 v4 223 56) - 1))] []) else some (w, f1, some (.inl 0))) := by
  show mj_run yM_laysRoad w f 0 [.inr (.inl 223), .inl x1, .inr (.inr (.inr 0)), .inr (.inr (.inr 0)), .inr (.inr (.inr 0))] [] = _
  refine ms_aload_n (k := 0) (p' := 1) (by decide +kernel) rfl rfl ?_
  refine ms_iload_n (k := 1) (p' := 2) (by decide +kernel) rfl rfl ?_
  refine ms_virt_i (idx := 411) (cy := yM_firstNode) (n := 1) (a := 223) (as := [.inl x1]) (rest := []) (p' := 5) (by decide +kernel) rfl rfl rfl rfl (k_223 hw) rfl (fun f1 v2 => ?_)
  refine ms_istore_n (k := 2) (ls' := [.inr (.inl 223), .inl x1, .inl v2, .inr (.inr (.inr 0)), .inr (.inr (.inr 0))]) (p' := 6) (by decide +kernel) rfl (Nat.le_of_ble_eq_true rfl) rfl ?_
  refine ms_iload_n (k := 2) (p' := 7) (by decide +kernel) rfl rfl ?_
  refine ms_bipush (n := (-2)) (v := (-2)) (p' := 9) (by decide +kernel) rfl ?_
  refine ms_icmp_ne (off := 5) (t := 14) (p' := 12) (by decide +kernel) rfl (fun hc => ?_) (fun hc => ?_)
  · refine ms_aload_n (k := 0) (p' := 15) (by decide +kernel) rfl rfl ?_
    refine ms_aload_n (k := 0) (p' := 16) (by decide +kernel) rfl rfl ?_
    refine ms_iload_n (k := 2) (p' := 17) (by decide +kernel) rfl rfl ?_
    refine ms_virt_i (idx := 408) (cy := yM_depth) (n := 1) (a := 223) (as := [.inl v2]) (rest := [.inr (.inl 223)]) (p' := 20) (by decide +kernel) rfl rfl rfl rfl (k_223 hw) rfl (fun f3 v4 => ?_)
    refine ms_puti (idx := 414) (ci := 9) (k := 56) (q := 1447) (p' := 23) (by decide +kernel) rfl (k_223 hw) ?_
    refine ms_iload_n (k := 2) (p' := 24) (by decide +kernel) rfl rfl ?_
    refine ms_istore_n (k := 3) (ls' := [.inr (.inl 223), .inl x1, .inl v2, .inl v2, .inr (.inr (.inr 0))]) (p' := 25) (by decide +kernel) rfl (Nat.le_of_ble_eq_true rfl) rfl ?_
    refine ms_aload_n (k := 0) (p' := 26) (by decide +kernel) rfl rfl ?_
    refine ms_geti (idx := 414) (ci := 9) (k := 56) (q := 1447) (p' := 29) (by decide +kernel) rfl (k_223 hw) ?_
    refine ms_iconst (n := 1) (v := 1) (p' := 30) (by decide +kernel) rfl ?_
    refine ms_isub (p' := 31) (by decide +kernel) rfl ?_
    refine ms_istore (k := 4) (ls' := [.inr (.inl 223), .inl x1, .inl v2, .inl v2, .inl (mj_w ((mj_u f3 223 56 v4 223 56) - 1))]) (p' := 33) (by decide +kernel) rfl (Nat.le_of_ble_eq_true rfl) rfl ?_
    rfl
  · refine ms_iconst (n := 0) (v := 0) (p' := 13) (by decide +kernel) rfl ?_
    exact (ms_zret (by decide +kernel)).trans (mj_gd_pos (by decide) _)
theorem l_M_laysRoad_33 {sw : Bool} {w : mj_W} (hw : wk sw w) (f : mj_F) (x1 : Int) (x2 : Int) (x3 : Int) (x4 : Int)  : mj_run yM_laysRoad w f 33 [.inr (.inl 223), .inl x1, .inl x2, .inl x3, .inl x4] [] = if x4 < 0 then some (w, f, some (.inl 1)) else mj_gd (0 ≤ x3 ∧ x3 < ((60 : Nat) : Int)) (mj_gd (0 ≤ x4 ∧ x4 < ((60 : Nat) : Int)) (mj_gd (0 ≤ x3 ∧ x3 < ((60 : Nat) : Int)) (mj_run yM_laysRoad w (mj_u f 254 x4.toNat (f 238 x3.toNat)) 33 [.inr (.inl 223), .inl x1, .inl x2, .inl ((mj_u f 254 x4.toNat (f 238 x3.toNat)) 237 x3.toNat), .inl (mj_w (x4 + (-1)))] []))) := by
  refine ms_iload (k := 4) (p' := 35) (by decide +kernel) rfl rfl ?_
  refine ms_if_lt (off := 29) (t := 64) (p' := 38) (by decide +kernel) rfl (fun hc => ?_) (fun hc => ?_)
  · refine ms_iconst (n := 1) (v := 1) (p' := 65) (by decide +kernel) rfl ?_
    exact (ms_zret (by decide +kernel)).trans (mj_gd_pos (by decide) _)
  · refine ms_aload_n (k := 0) (p' := 39) (by decide +kernel) rfl rfl ?_
    refine ms_getr (idx := 108) (ci := 9) (k := 55) (q := 1446) (p' := 42) (by decide +kernel) rfl (k_223 hw) (r_223_55 hw) (by decide) ?_
    refine ms_iload (k := 4) (p' := 44) (by decide +kernel) rfl rfl ?_
    refine ms_aload_n (k := 0) (p' := 45) (by decide +kernel) rfl rfl ?_
    refine ms_getr (idx := 56) (ci := 9) (k := 21) (q := 1412) (p' := 48) (by decide +kernel) rfl (k_223 hw) (r_223_21 hw) (by decide) ?_
    refine ms_iload_n (k := 3) (p' := 49) (by decide +kernel) rfl rfl ?_
    refine ms_iald (p' := 50) (by decide +kernel) rfl (k_238 hw) (fun hj5 => ?_)
    refine ms_iast (p' := 51) (by decide +kernel) rfl (k_254 hw) (fun hj6 => ?_)
    refine ms_aload_n (k := 0) (p' := 52) (by decide +kernel) rfl rfl ?_
    refine ms_getr (idx := 53) (ci := 9) (k := 20) (q := 1411) (p' := 55) (by decide +kernel) rfl (k_223 hw) (r_223_20 hw) (by decide) ?_
    refine ms_iload_n (k := 3) (p' := 56) (by decide +kernel) rfl rfl ?_
    refine ms_iald (p' := 57) (by decide +kernel) rfl (k_237 hw) (fun hj7 => ?_)
    refine ms_istore_n (k := 3) (ls' := [.inr (.inl 223), .inl x1, .inl x2, .inl ((mj_u f 254 x4.toNat (f 238 x3.toNat)) 237 x3.toNat), .inl x4]) (p' := 58) (by decide +kernel) rfl (Nat.le_of_ble_eq_true rfl) rfl ?_
    refine ms_iinc (k := 4) (n := (-1)) (ls' := [.inr (.inl 223), .inl x1, .inl x2, .inl ((mj_u f 254 x4.toNat (f 238 x3.toNat)) 237 x3.toNat), .inl (mj_w (x4 + (-1)))]) (p' := 61) (by decide +kernel) rfl rfl rfl ?_
    refine ms_goto (off := (-28)) (p' := 33) (by decide +kernel) ?_
    rfl
theorem c_M_way {sw : Bool} {w : mj_W} (hw : wk sw w) (f : mj_F) (x1 : Int) (x2 : Int)  : mj_call yM_way w f [.inr (.inl 223), .inl x1, .inl x2] = mj_bi (mj_call yM_isPlace w (mj_u f 223 0 0) [.inr (.inl 223), .inl x1]) (fun f1 v2 => if v2 = 0 then some (w, f1, some (.inl (-1))) else if (-1) ≤ x2 then mj_bi (mj_call yM_laysRoad w f1 [.inr (.inl 223), .inl x1]) (fun f3 v4 => if ¬ v4 = 0 then if ¬ x2 = (-1) then if (f3 223 56) ≤ x2 then some (w, f3, some (.inl (-2))) else mj_gd (0 ≤ x2 ∧ x2 < ((60 : Nat) : Int)) (some (w, f3, some (.inl (f3 254 x2.toNat)))) else some (w, f3, some (.inl (f3 223 56))) else some (w, f3, some (.inl (-2)))) else some (w, f1, some (.inl (-1)))) := by
  show mj_run yM_way w f 0 [.inr (.inl 223), .inl x1, .inl x2] [] = _
  refine ms_aload_n (k := 0) (p' := 1) (by decide +kernel) rfl rfl ?_
  refine ms_iconst (n := 0) (v := 0) (p' := 2) (by decide +kernel) rfl ?_
  refine ms_puti (idx := 1) (ci := 9) (k := 0) (q := 1391) (p' := 5) (by decide +kernel) rfl (k_223 hw) ?_
  refine ms_aload_n (k := 0) (p' := 6) (by decide +kernel) rfl rfl ?_
  refine ms_iload_n (k := 1) (p' := 7) (by decide +kernel) rfl rfl ?_
  refine ms_virt_i (idx := 368) (cy := yM_isPlace) (n := 1) (a := 223) (as := [.inl x1]) (rest := []) (p' := 10) (by decide +kernel) rfl rfl rfl rfl (k_223 hw) rfl (fun f1 v2 => ?_)
  refine ms_if_eq (off := 8) (t := 18) (p' := 13) (by decide +kernel) rfl (fun hc => ?_) (fun hc => ?_)
  · refine ms_iconst (n := (-1)) (v := (-1)) (p' := 19) (by decide +kernel) rfl ?_
    exact ms_iret (by decide +kernel)
  · refine ms_iload_n (k := 2) (p' := 14) (by decide +kernel) rfl rfl ?_
    refine ms_iconst (n := (-1)) (v := (-1)) (p' := 15) (by decide +kernel) rfl ?_
    refine ms_icmp_ge (off := 5) (t := 20) (p' := 18) (by decide +kernel) rfl (fun hc => ?_) (fun hc => ?_)
    · refine ms_aload_n (k := 0) (p' := 21) (by decide +kernel) rfl rfl ?_
      refine ms_iload_n (k := 1) (p' := 22) (by decide +kernel) rfl rfl ?_
      refine ms_virt_i (idx := 417) (cy := yM_laysRoad) (n := 1) (a := 223) (as := [.inl x1]) (rest := []) (p' := 25) (by decide +kernel) rfl rfl rfl rfl (k_223 hw) rfl (fun f3 v4 => ?_)
      refine ms_if_ne (off := 6) (t := 31) (p' := 28) (by decide +kernel) rfl (fun hc => ?_) (fun hc => ?_)
      · refine ms_iload_n (k := 2) (p' := 32) (by decide +kernel) rfl rfl ?_
        refine ms_iconst (n := (-1)) (v := (-1)) (p' := 33) (by decide +kernel) rfl ?_
        refine ms_icmp_ne (off := 10) (t := 43) (p' := 36) (by decide +kernel) rfl (fun hc => ?_) (fun hc => ?_)
        · refine ms_iload_n (k := 2) (p' := 44) (by decide +kernel) rfl rfl ?_
          refine ms_aload_n (k := 0) (p' := 45) (by decide +kernel) rfl rfl ?_
          refine ms_geti (idx := 414) (ci := 9) (k := 56) (q := 1447) (p' := 48) (by decide +kernel) rfl (k_223 hw) ?_
          refine ms_icmp_ge (off := 12) (t := 60) (p' := 51) (by decide +kernel) rfl (fun hc => ?_) (fun hc => ?_)
          · refine ms_bipush (n := (-2)) (v := (-2)) (p' := 62) (by decide +kernel) rfl ?_
            exact ms_iret (by decide +kernel)
          · refine ms_aload_n (k := 0) (p' := 52) (by decide +kernel) rfl rfl ?_
            refine ms_getr (idx := 108) (ci := 9) (k := 55) (q := 1446) (p' := 55) (by decide +kernel) rfl (k_223 hw) (r_223_55 hw) (by decide) ?_
            refine ms_iload_n (k := 2) (p' := 56) (by decide +kernel) rfl rfl ?_
            refine ms_iald (p' := 57) (by decide +kernel) rfl (k_254 hw) (fun hj5 => ?_)
            refine ms_goto (off := 5) (p' := 62) (by decide +kernel) ?_
            exact ms_iret (by decide +kernel)
        · refine ms_aload_n (k := 0) (p' := 37) (by decide +kernel) rfl rfl ?_
          refine ms_geti (idx := 414) (ci := 9) (k := 56) (q := 1447) (p' := 40) (by decide +kernel) rfl (k_223 hw) ?_
          refine ms_goto (off := 22) (p' := 62) (by decide +kernel) ?_
          exact ms_iret (by decide +kernel)
      · refine ms_bipush (n := (-2)) (v := (-2)) (p' := 30) (by decide +kernel) rfl ?_
        exact ms_iret (by decide +kernel)
    · refine ms_iconst (n := (-1)) (v := (-1)) (p' := 19) (by decide +kernel) rfl ?_
      exact ms_iret (by decide +kernel)
theorem c_M_openOf {sw : Bool} {w : mj_W} (hw : wk sw w) (f : mj_F) (x1 : Int)  : mj_call yM_openOf w f [.inr (.inl 223), .inl x1] = mj_run yM_openOf w f 4 [.inr (.inl 223), .inl x1, .inl 0, .inl 0] [] := by
  show mj_run yM_openOf w f 0 [.inr (.inl 223), .inl x1, .inr (.inr (.inr 0)), .inr (.inr (.inr 0))] [] = _
  refine ms_iconst (n := 0) (v := 0) (p' := 1) (by decide +kernel) rfl ?_
  refine ms_istore_n (k := 2) (ls' := [.inr (.inl 223), .inl x1, .inl 0, .inr (.inr (.inr 0))]) (p' := 2) (by decide +kernel) rfl (Nat.le_of_ble_eq_true rfl) rfl ?_
  refine ms_iconst (n := 0) (v := 0) (p' := 3) (by decide +kernel) rfl ?_
  refine ms_istore_n (k := 3) (ls' := [.inr (.inl 223), .inl x1, .inl 0, .inl 0]) (p' := 4) (by decide +kernel) rfl (Nat.le_of_ble_eq_true rfl) rfl ?_
  rfl
theorem l_M_openOf_4 {sw : Bool} {w : mj_W} (hw : wk sw w) (f : mj_F) (x1 : Int) (x2 : Int) (x3 : Int)  : mj_run yM_openOf w f 4 [.inr (.inl 223), .inl x1, .inl x2, .inl x3] [] = if (f 223 4) ≤ x3 then some (w, f, some (.inl x2)) else mj_gd (0 ≤ x3 ∧ x3 < ((16 : Nat) : Int)) (mj_gd (0 ≤ x1 ∧ x1 < ((60 : Nat) : Int)) (if (f 228 x3.toNat) = (f 236 x1.toNat) then mj_bu (mj_call yM_loadsNode w f [.inr (.inl 223), .inl x1]) (fun f3 => mj_bu (mj_call yM_steps w f3 [.inr (.inl 223), .inl x3]) (fun f4 => if (f4 223 53) = 0 then mj_run yM_openOf w f4 4 [.inr (.inl 223), .inl x1, .inl (mj_or x2 (mj_shl 1 x3)), .inl (mj_w (x3 + 1))] [] else mj_run yM_openOf w f4 4 [.inr (.inl 223), .inl x1, .inl (mj_or x2 0), .inl (mj_w (x3 + 1))] [])) else mj_run yM_openOf w f 4 [.inr (.inl 223), .inl x1, .inl x2, .inl (mj_w (x3 + 1))] [])) := by
  refine ms_iload_n (k := 3) (p' := 5) (by decide +kernel) rfl rfl ?_
  refine ms_aload_n (k := 0) (p' := 6) (by decide +kernel) rfl rfl ?_
  refine ms_geti (idx := 248) (ci := 9) (k := 4) (q := 1395) (p' := 9) (by decide +kernel) rfl (k_223 hw) ?_
  refine ms_icmp_ge (off := 54) (t := 63) (p' := 12) (by decide +kernel) rfl (fun hc => ?_) (fun hc => ?_)
  · refine ms_iload_n (k := 2) (p' := 64) (by decide +kernel) rfl rfl ?_
    exact ms_iret (by decide +kernel)
  · refine ms_aload_n (k := 0) (p' := 13) (by decide +kernel) rfl rfl ?_
    refine ms_getr (idx := 26) (ci := 9) (k := 10) (q := 1401) (p' := 16) (by decide +kernel) rfl (k_223 hw) (r_223_10 hw) (by decide) ?_
    refine ms_iload_n (k := 3) (p' := 17) (by decide +kernel) rfl rfl ?_
    refine ms_iald (p' := 18) (by decide +kernel) rfl (k_228 hw) (fun hj1 => ?_)
    refine ms_aload_n (k := 0) (p' := 19) (by decide +kernel) rfl rfl ?_
    refine ms_getr (idx := 50) (ci := 9) (k := 19) (q := 1410) (p' := 22) (by decide +kernel) rfl (k_223 hw) (r_223_19 hw) (by decide) ?_
    refine ms_iload_n (k := 1) (p' := 23) (by decide +kernel) rfl rfl ?_
    refine ms_iald (p' := 24) (by decide +kernel) rfl (k_236 hw) (fun hj2 => ?_)
    refine ms_icmp_eq (off := 6) (t := 30) (p' := 27) (by decide +kernel) rfl (fun hc => ?_) (fun hc => ?_)
    · refine ms_aload_n (k := 0) (p' := 31) (by decide +kernel) rfl rfl ?_
      refine ms_iload_n (k := 1) (p' := 32) (by decide +kernel) rfl rfl ?_
      refine ms_virt_u (idx := 377) (cy := yM_loadsNode) (n := 1) (a := 223) (as := [.inl x1]) (rest := []) (p' := 35) (by decide +kernel) rfl rfl rfl rfl (k_223 hw) rfl (fun f3 => ?_)
      refine ms_aload_n (k := 0) (p' := 36) (by decide +kernel) rfl rfl ?_
      refine ms_iload_n (k := 3) (p' := 37) (by decide +kernel) rfl rfl ?_
      refine ms_virt_u (idx := 362) (cy := yM_steps) (n := 1) (a := 223) (as := [.inl x3]) (rest := []) (p' := 40) (by decide +kernel) rfl rfl rfl rfl (k_223 hw) rfl (fun f4 => ?_)
      refine ms_iload_n (k := 2) (p' := 41) (by decide +kernel) rfl rfl ?_
      refine ms_aload_n (k := 0) (p' := 42) (by decide +kernel) rfl rfl ?_
      refine ms_geti (idx := 289) (ci := 9) (k := 53) (q := 1444) (p' := 45) (by decide +kernel) rfl (k_223 hw) ?_
      refine ms_if_eq (off := 7) (t := 52) (p' := 48) (by decide +kernel) rfl (fun hc => ?_) (fun hc => ?_)
      · refine ms_iconst (n := 1) (v := 1) (p' := 53) (by decide +kernel) rfl ?_
        refine ms_iload_n (k := 3) (p' := 54) (by decide +kernel) rfl rfl ?_
        refine ms_ishl (p' := 55) (by decide +kernel) rfl ?_
        refine ms_ior (p' := 56) (by decide +kernel) rfl ?_
        refine ms_istore_n (k := 2) (ls' := [.inr (.inl 223), .inl x1, .inl (mj_or x2 (mj_shl 1 x3)), .inl x3]) (p' := 57) (by decide +kernel) rfl (Nat.le_of_ble_eq_true rfl) rfl ?_
        refine ms_iinc (k := 3) (n := 1) (ls' := [.inr (.inl 223), .inl x1, .inl (mj_or x2 (mj_shl 1 x3)), .inl (mj_w (x3 + 1))]) (p' := 60) (by decide +kernel) rfl rfl rfl ?_
        refine ms_goto (off := (-56)) (p' := 4) (by decide +kernel) ?_
        rfl
      · refine ms_iconst (n := 0) (v := 0) (p' := 49) (by decide +kernel) rfl ?_
        refine ms_goto (off := 6) (p' := 55) (by decide +kernel) ?_
        refine ms_ior (p' := 56) (by decide +kernel) rfl ?_
        refine ms_istore_n (k := 2) (ls' := [.inr (.inl 223), .inl x1, .inl (mj_or x2 0), .inl x3]) (p' := 57) (by decide +kernel) rfl (Nat.le_of_ble_eq_true rfl) rfl ?_
        refine ms_iinc (k := 3) (n := 1) (ls' := [.inr (.inl 223), .inl x1, .inl (mj_or x2 0), .inl (mj_w (x3 + 1))]) (p' := 60) (by decide +kernel) rfl rfl rfl ?_
        refine ms_goto (off := (-56)) (p' := 4) (by decide +kernel) ?_
        rfl
    · refine ms_goto (off := 30) (p' := 57) (by decide +kernel) ?_
      refine ms_iinc (k := 3) (n := 1) (ls' := [.inr (.inl 223), .inl x1, .inl x2, .inl (mj_w (x3 + 1))]) (p' := 60) (by decide +kernel) rfl rfl rfl ?_
      refine ms_goto (off := (-56)) (p' := 4) (by decide +kernel) ?_
      rfl
theorem c_M_open {sw : Bool} {w : mj_W} (hw : wk sw w) (f : mj_F) (x1 : Int)  : mj_call yM_open w f [.inr (.inl 223), .inl x1] = mj_bi (mj_call yM_isIn w (mj_u f 223 0 0) [.inl x1, .inl 0, .inl (mj_w ((mj_u f 223 0 0 223 23) - 1))]) (fun f1 v2 => if v2 = 0 then some (w, f1, some (.inl (-1))) else mj_bi (mj_call yM_openOf w f1 [.inr (.inl 223), .inl x1]) (fun f3 v4 => some (w, f3, some (.inl v4)))) := by
  show mj_run yM_open w f 0 [.inr (.inl 223), .inl x1] [] = _
  refine ms_aload_n (k := 0) (p' := 1) (by decide +kernel) rfl rfl ?_
  refine ms_iconst (n := 0) (v := 0) (p' := 2) (by decide +kernel) rfl ?_
  refine ms_puti (idx := 1) (ci := 9) (k := 0) (q := 1391) (p' := 5) (by decide +kernel) rfl (k_223 hw) ?_
  refine ms_iload_n (k := 1) (p' := 6) (by decide +kernel) rfl rfl ?_
  refine ms_iconst (n := 0) (v := 0) (p' := 7) (by decide +kernel) rfl ?_
  refine ms_aload_n (k := 0) (p' := 8) (by decide +kernel) rfl rfl ?_
  refine ms_geti (idx := 374) (ci := 9) (k := 23) (q := 1414) (p' := 11) (by decide +kernel) rfl (k_223 hw) ?_
  refine ms_iconst (n := 1) (v := 1) (p' := 12) (by decide +kernel) rfl ?_
  refine ms_isub (p' := 13) (by decide +kernel) rfl ?_
  refine ms_stat_i (idx := 158) (cy := yM_isIn) (n := 3) (as := [.inl x1, .inl 0, .inl (mj_w ((mj_u f 223 0 0 223 23) - 1))]) (rest := []) (p' := 16) (by decide +kernel) rfl rfl rfl rfl rfl (fun f1 v2 => ?_)
  refine ms_if_eq (off := 11) (t := 27) (p' := 19) (by decide +kernel) rfl (fun hc => ?_) (fun hc => ?_)
  · refine ms_iconst (n := (-1)) (v := (-1)) (p' := 28) (by decide +kernel) rfl ?_
    exact ms_iret (by decide +kernel)
  · refine ms_aload_n (k := 0) (p' := 20) (by decide +kernel) rfl rfl ?_
    refine ms_iload_n (k := 1) (p' := 21) (by decide +kernel) rfl rfl ?_
    refine ms_virt_i (idx := 420) (cy := yM_openOf) (n := 1) (a := 223) (as := [.inl x1]) (rest := []) (p' := 24) (by decide +kernel) rfl rfl rfl rfl (k_223 hw) rfl (fun f3 v4 => ?_)
    refine ms_goto (off := 4) (p' := 28) (by decide +kernel) ?_
    exact ms_iret (by decide +kernel)
theorem c_M_stuck {sw : Bool} {w : mj_W} (hw : wk sw w) (f : mj_F)   : mj_call yM_stuck w f [.inr (.inl 223)] = mj_run yM_stuck w (mj_u f 223 0 0) 7 [.inr (.inl 223), .inl 0] [] := by
  show mj_run yM_stuck w f 0 [.inr (.inl 223), .inr (.inr (.inr 0))] [] = _
  refine ms_aload_n (k := 0) (p' := 1) (by decide +kernel) rfl rfl ?_
  refine ms_iconst (n := 0) (v := 0) (p' := 2) (by decide +kernel) rfl ?_
  refine ms_puti (idx := 1) (ci := 9) (k := 0) (q := 1391) (p' := 5) (by decide +kernel) rfl (k_223 hw) ?_
  refine ms_iconst (n := 0) (v := 0) (p' := 6) (by decide +kernel) rfl ?_
  refine ms_istore_n (k := 1) (ls' := [.inr (.inl 223), .inl 0]) (p' := 7) (by decide +kernel) rfl (Nat.le_of_ble_eq_true rfl) rfl ?_
  rfl
theorem l_M_stuck_7 {sw : Bool} {w : mj_W} (hw : wk sw w) (f : mj_F) (x1 : Int)  : mj_run yM_stuck w f 7 [.inr (.inl 223), .inl x1] [] = if (f 223 23) ≤ x1 then some (w, f, some (.inl (-2))) else mj_bi (mj_call yM_openOf w f [.inr (.inl 223), .inl x1]) (fun f1 v2 => if ¬ v2 = 0 then mj_run yM_stuck w f1 7 [.inr (.inl 223), .inl (mj_w (x1 + 1))] [] else some (w, f1, some (.inl x1))) := by
  refine ms_iload_n (k := 1) (p' := 8) (by decide +kernel) rfl rfl ?_
  refine ms_aload_n (k := 0) (p' := 9) (by decide +kernel) rfl rfl ?_
  refine ms_geti (idx := 374) (ci := 9) (k := 23) (q := 1414) (p' := 12) (by decide +kernel) rfl (k_223 hw) ?_
  refine ms_icmp_ge (off := 19) (t := 31) (p' := 15) (by decide +kernel) rfl (fun hc => ?_) (fun hc => ?_)
  · refine ms_bipush (n := (-2)) (v := (-2)) (p' := 33) (by decide +kernel) rfl ?_
    exact ms_iret (by decide +kernel)
  · refine ms_aload_n (k := 0) (p' := 16) (by decide +kernel) rfl rfl ?_
    refine ms_iload_n (k := 1) (p' := 17) (by decide +kernel) rfl rfl ?_
    refine ms_virt_i (idx := 420) (cy := yM_openOf) (n := 1) (a := 223) (as := [.inl x1]) (rest := []) (p' := 20) (by decide +kernel) rfl rfl rfl rfl (k_223 hw) rfl (fun f1 v2 => ?_)
    refine ms_if_ne (off := 5) (t := 25) (p' := 23) (by decide +kernel) rfl (fun hc => ?_) (fun hc => ?_)
    · refine ms_iinc (k := 1) (n := 1) (ls' := [.inr (.inl 223), .inl (mj_w (x1 + 1))]) (p' := 28) (by decide +kernel) rfl rfl rfl ?_
      refine ms_goto (off := (-21)) (p' := 7) (by decide +kernel) ?_
      rfl
    · refine ms_iload_n (k := 1) (p' := 24) (by decide +kernel) rfl rfl ?_
      exact ms_iret (by decide +kernel)
theorem c_M_reached {sw : Bool} {w : mj_W} (hw : wk sw w) (f : mj_F)   : mj_call yM_reached w f [.inr (.inl 223)] = mj_run yM_reached w (mj_u f 223 0 0) 9 [.inr (.inl 223), .inl 0, .inl 0] [] := by
  show mj_run yM_reached w f 0 [.inr (.inl 223), .inr (.inr (.inr 0)), .inr (.inr (.inr 0))] [] = _
  refine ms_aload_n (k := 0) (p' := 1) (by decide +kernel) rfl rfl ?_
  refine ms_iconst (n := 0) (v := 0) (p' := 2) (by decide +kernel) rfl ?_
  refine ms_puti (idx := 1) (ci := 9) (k := 0) (q := 1391) (p' := 5) (by decide +kernel) rfl (k_223 hw) ?_
  refine ms_iconst (n := 0) (v := 0) (p' := 6) (by decide +kernel) rfl ?_
  refine ms_istore_n (k := 1) (ls' := [.inr (.inl 223), .inl 0, .inr (.inr (.inr 0))]) (p' := 7) (by decide +kernel) rfl (Nat.le_of_ble_eq_true rfl) rfl ?_
  refine ms_iconst (n := 0) (v := 0) (p' := 8) (by decide +kernel) rfl ?_
  refine ms_istore_n (k := 2) (ls' := [.inr (.inl 223), .inl 0, .inl 0]) (p' := 9) (by decide +kernel) rfl (Nat.le_of_ble_eq_true rfl) rfl ?_
  rfl
theorem l_M_reached_9 {sw : Bool} {w : mj_W} (hw : wk sw w) (f : mj_F) (x1 : Int) (x2 : Int)  : mj_run yM_reached w f 9 [.inr (.inl 223), .inl x1, .inl x2] [] = if (f 223 23) ≤ x2 then some (w, f, some (.inl x1)) else mj_gd (0 ≤ x2 ∧ x2 < ((60 : Nat) : Int)) (mj_run yM_reached w f 9 [.inr (.inl 223), .inl (mj_or x1 (mj_shl 1 (f 236 x2.toNat))), .inl (mj_w (x2 + 1))] []) := by
  refine ms_iload_n (k := 2) (p' := 10) (by decide +kernel) rfl rfl ?_
  refine ms_aload_n (k := 0) (p' := 11) (by decide +kernel) rfl rfl ?_
  refine ms_geti (idx := 374) (ci := 9) (k := 23) (q := 1414) (p' := 14) (by decide +kernel) rfl (k_223 hw) ?_
  refine ms_icmp_ge (off := 20) (t := 34) (p' := 17) (by decide +kernel) rfl (fun hc => ?_) (fun hc => ?_)
  · refine ms_iload_n (k := 1) (p' := 35) (by decide +kernel) rfl rfl ?_
    exact ms_iret (by decide +kernel)
  · refine ms_iload_n (k := 1) (p' := 18) (by decide +kernel) rfl rfl ?_
    refine ms_iconst (n := 1) (v := 1) (p' := 19) (by decide +kernel) rfl ?_
    refine ms_aload_n (k := 0) (p' := 20) (by decide +kernel) rfl rfl ?_
    refine ms_getr (idx := 50) (ci := 9) (k := 19) (q := 1410) (p' := 23) (by decide +kernel) rfl (k_223 hw) (r_223_19 hw) (by decide) ?_
    refine ms_iload_n (k := 2) (p' := 24) (by decide +kernel) rfl rfl ?_
    refine ms_iald (p' := 25) (by decide +kernel) rfl (k_236 hw) (fun hj1 => ?_)
    refine ms_ishl (p' := 26) (by decide +kernel) rfl ?_
    refine ms_ior (p' := 27) (by decide +kernel) rfl ?_
    refine ms_istore_n (k := 1) (ls' := [.inr (.inl 223), .inl (mj_or x1 (mj_shl 1 (f 236 x2.toNat))), .inl x2]) (p' := 28) (by decide +kernel) rfl (Nat.le_of_ble_eq_true rfl) rfl ?_
    refine ms_iinc (k := 2) (n := 1) (ls' := [.inr (.inl 223), .inl (mj_or x1 (mj_shl 1 (f 236 x2.toNat))), .inl (mj_w (x2 + 1))]) (p' := 31) (by decide +kernel) rfl rfl rfl ?_
    refine ms_goto (off := (-22)) (p' := 9) (by decide +kernel) ?_
    rfl
theorem c_M_traced {sw : Bool} {w : mj_W} (hw : wk sw w) (f : mj_F)   : mj_call yM_traced w f [.inr (.inl 223)] = some (w, f, some (.inl (f 234 (104 : Int).toNat))) := by
  show mj_run yM_traced w f 0 [.inr (.inl 223)] [] = _
  refine ms_aload_n (k := 0) (p' := 1) (by decide +kernel) rfl rfl ?_
  refine ms_getr (idx := 44) (ci := 9) (k := 16) (q := 1407) (p' := 4) (by decide +kernel) rfl (k_223 hw) (r_223_16 hw) (by decide) ?_
  refine ms_bipush (n := 104) (v := 104) (p' := 6) (by decide +kernel) rfl ?_
  refine Eq.trans (ms_iald (p' := 7) (by decide +kernel) rfl (k_234 hw) (fun hj1 => ?_)) (mj_gd_pos (by decide) _)
  exact ms_iret (by decide +kernel)
theorem c_M_add {sw : Bool} {w : mj_W} (hw : wk sw w) (f : mj_F) (x1 : Int)  : mj_call yM_add w f [.inr (.inl 223), .inl x1] = mj_bi (mj_call yM_isEdge w (mj_u f 223 0 0) [.inr (.inl 223), .inl x1]) (fun f1 v2 => if ¬ v2 = 0 then mj_bi (mj_call yM_traced w f1 [.inr (.inl 223)]) (fun f3 v4 => mj_gd (0 ≤ x1 ∧ x1 < ((16 : Nat) : Int)) (if ¬ v4 = 0 then mj_gd (0 ≤ (mj_w ((mj_w (105 + v4)) - 1)) ∧ (mj_w ((mj_w (105 + v4)) - 1)) < ((125 : Nat) : Int)) (mj_gd (0 ≤ (f3 234 (mj_w ((mj_w (105 + v4)) - 1)).toNat) ∧ (f3 234 (mj_w ((mj_w (105 + v4)) - 1)).toNat) < ((16 : Nat) : Int)) (if (f3 228 x1.toNat) = (f3 229 (f3 234 (mj_w ((mj_w (105 + v4)) - 1)).toNat).toNat) then if ¬ v4 = 20 then mj_bu (mj_call yM_keeps w f3 [.inr (.inl 223)]) (fun f8 => mj_gd (0 ≤ (mj_w (105 + v4)) ∧ (mj_w (105 + v4)) < ((125 : Nat) : Int)) (mj_bi (mj_call yM_traced w (mj_u (mj_u f8 234 (mj_w (105 + v4)).toNat x1) 234 (104 : Int).toNat (mj_w (((mj_u f8 234 (mj_w (105 + v4)).toNat x1) 234 (104 : Int).toNat) + 1))) [.inr (.inl 223)]) (fun f12 v13 => some (w, f12, some (.inl v13))))) else some (w, f3, some (.inl (-3))) else some (w, f3, some (.inl (-2))))) else if (f3 228 x1.toNat) = (f3 223 5) then if ¬ v4 = 20 then mj_bu (mj_call yM_keeps w f3 [.inr (.inl 223)]) (fun f14 => mj_gd (0 ≤ (mj_w (105 + v4)) ∧ (mj_w (105 + v4)) < ((125 : Nat) : Int)) (mj_bi (mj_call yM_traced w (mj_u (mj_u f14 234 (mj_w (105 + v4)).toNat x1) 234 (104 : Int).toNat (mj_w (((mj_u f14 234 (mj_w (105 + v4)).toNat x1) 234 (104 : Int).toNat) + 1))) [.inr (.inl 223)]) (fun f18 v19 => some (w, f18, some (.inl v19))))) else some (w, f3, some (.inl (-3))) else some (w, f3, some (.inl (-2))))) else some (w, f1, some (.inl (-1)))) := by
  show mj_run yM_add w f 0 [.inr (.inl 223), .inl x1, .inr (.inr (.inr 0))] [] = _
  refine ms_aload_n (k := 0) (p' := 1) (by decide +kernel) rfl rfl ?_
  refine ms_iconst (n := 0) (v := 0) (p' := 2) (by decide +kernel) rfl ?_
  refine ms_puti (idx := 1) (ci := 9) (k := 0) (q := 1391) (p' := 5) (by decide +kernel) rfl (k_223 hw) ?_
  refine ms_aload_n (k := 0) (p' := 6) (by decide +kernel) rfl rfl ?_
  refine ms_iload_n (k := 1) (p' := 7) (by decide +kernel) rfl rfl ?_
  refine ms_virt_i (idx := 359) (cy := yM_isEdge) (n := 1) (a := 223) (as := [.inl x1]) (rest := []) (p' := 10) (by decide +kernel) rfl rfl rfl rfl (k_223 hw) rfl (fun f1 v2 => ?_)
  refine ms_if_ne (off := 5) (t := 15) (p' := 13) (by decide +kernel) rfl (fun hc => ?_) (fun hc => ?_)
  · refine ms_aload_n (k := 0) (p' := 16) (by decide +kernel) rfl rfl ?_
    refine ms_virt_i (idx := 435) (cy := yM_traced) (n := 0) (a := 223) (as := []) (rest := []) (p' := 19) (by decide +kernel) rfl rfl rfl rfl (k_223 hw) rfl (fun f3 v4 => ?_)
    refine ms_istore_n (k := 2) (ls' := [.inr (.inl 223), .inl x1, .inl v4]) (p' := 20) (by decide +kernel) rfl (Nat.le_of_ble_eq_true rfl) rfl ?_
    refine ms_aload_n (k := 0) (p' := 21) (by decide +kernel) rfl rfl ?_
    refine ms_getr (idx := 26) (ci := 9) (k := 10) (q := 1401) (p' := 24) (by decide +kernel) rfl (k_223 hw) (r_223_10 hw) (by decide) ?_
    refine ms_iload_n (k := 1) (p' := 25) (by decide +kernel) rfl rfl ?_
    refine ms_iald (p' := 26) (by decide +kernel) rfl (k_228 hw) (fun hj5 => ?_)
    refine ms_iload_n (k := 2) (p' := 27) (by decide +kernel) rfl rfl ?_
    refine ms_if_ne (off := 10) (t := 37) (p' := 30) (by decide +kernel) rfl (fun hc => ?_) (fun hc => ?_)
    · refine ms_aload_n (k := 0) (p' := 38) (by decide +kernel) rfl rfl ?_
      refine ms_getr (idx := 29) (ci := 9) (k := 11) (q := 1402) (p' := 41) (by decide +kernel) rfl (k_223 hw) (r_223_11 hw) (by decide) ?_
      refine ms_aload_n (k := 0) (p' := 42) (by decide +kernel) rfl rfl ?_
      refine ms_getr (idx := 44) (ci := 9) (k := 16) (q := 1407) (p' := 45) (by decide +kernel) rfl (k_223 hw) (r_223_16 hw) (by decide) ?_
      refine ms_bipush (n := 105) (v := 105) (p' := 47) (by decide +kernel) rfl ?_
      refine ms_iload_n (k := 2) (p' := 48) (by decide +kernel) rfl rfl ?_
      refine ms_iadd (p' := 49) (by decide +kernel) rfl ?_
      refine ms_iconst (n := 1) (v := 1) (p' := 50) (by decide +kernel) rfl ?_
      refine ms_isub (p' := 51) (by decide +kernel) rfl ?_
      refine ms_iald (p' := 52) (by decide +kernel) rfl (k_234 hw) (fun hj6 => ?_)
      refine ms_iald (p' := 53) (by decide +kernel) rfl (k_229 hw) (fun hj7 => ?_)
      refine ms_icmp_eq (off := 6) (t := 59) (p' := 56) (by decide +kernel) rfl (fun hc => ?_) (fun hc => ?_)
      · refine ms_iload_n (k := 2) (p' := 60) (by decide +kernel) rfl rfl ?_
        refine ms_bipush (n := 20) (v := 20) (p' := 62) (by decide +kernel) rfl ?_
        refine ms_icmp_ne (off := 6) (t := 68) (p' := 65) (by decide +kernel) rfl (fun hc => ?_) (fun hc => ?_)
        · refine ms_aload_n (k := 0) (p' := 69) (by decide +kernel) rfl rfl ?_
          refine ms_virt_u (idx := 324) (cy := yM_keeps) (n := 0) (a := 223) (as := []) (rest := []) (p' := 72) (by decide +kernel) rfl rfl rfl rfl (k_223 hw) rfl (fun f8 => ?_)
          refine ms_aload_n (k := 0) (p' := 73) (by decide +kernel) rfl rfl ?_
          refine ms_getr (idx := 44) (ci := 9) (k := 16) (q := 1407) (p' := 76) (by decide +kernel) rfl (k_223 hw) (r_223_16 hw) (by decide) ?_
          refine ms_bipush (n := 105) (v := 105) (p' := 78) (by decide +kernel) rfl ?_
          refine ms_iload_n (k := 2) (p' := 79) (by decide +kernel) rfl rfl ?_
          refine ms_iadd (p' := 80) (by decide +kernel) rfl ?_
          refine ms_iload_n (k := 1) (p' := 81) (by decide +kernel) rfl rfl ?_
          refine ms_iast (p' := 82) (by decide +kernel) rfl (k_234 hw) (fun hj9 => ?_)
          refine ms_aload_n (k := 0) (p' := 83) (by decide +kernel) rfl rfl ?_
          refine ms_getr (idx := 44) (ci := 9) (k := 16) (q := 1407) (p' := 86) (by decide +kernel) rfl (k_223 hw) (r_223_16 hw) (by decide) ?_
          refine ms_bipush (n := 104) (v := 104) (p' := 88) (by decide +kernel) rfl ?_
          refine ms_dup2 (p' := 89) (by decide +kernel) rfl ?_
          refine Eq.trans (ms_iald (p' := 90) (by decide +kernel) rfl (k_234 hw) (fun hj10 => ?_)) (mj_gd_pos (by decide) _)
          refine ms_iconst (n := 1) (v := 1) (p' := 91) (by decide +kernel) rfl ?_
          refine ms_iadd (p' := 92) (by decide +kernel) rfl ?_
          refine Eq.trans (ms_iast (p' := 93) (by decide +kernel) rfl (k_234 hw) (fun hj11 => ?_)) (mj_gd_pos (by decide) _)
          refine ms_aload_n (k := 0) (p' := 94) (by decide +kernel) rfl rfl ?_
          refine ms_virt_i (idx := 435) (cy := yM_traced) (n := 0) (a := 223) (as := []) (rest := []) (p' := 97) (by decide +kernel) rfl rfl rfl rfl (k_223 hw) rfl (fun f12 v13 => ?_)
          exact ms_iret (by decide +kernel)
        · refine ms_bipush (n := (-3)) (v := (-3)) (p' := 67) (by decide +kernel) rfl ?_
          exact ms_iret (by decide +kernel)
      · refine ms_bipush (n := (-2)) (v := (-2)) (p' := 58) (by decide +kernel) rfl ?_
        exact ms_iret (by decide +kernel)
    · refine ms_aload_n (k := 0) (p' := 31) (by decide +kernel) rfl rfl ?_
      refine ms_geti (idx := 251) (ci := 9) (k := 5) (q := 1396) (p' := 34) (by decide +kernel) rfl (k_223 hw) ?_
      refine ms_goto (off := 19) (p' := 53) (by decide +kernel) ?_
      refine ms_icmp_eq (off := 6) (t := 59) (p' := 56) (by decide +kernel) rfl (fun hc => ?_) (fun hc => ?_)
      · refine ms_iload_n (k := 2) (p' := 60) (by decide +kernel) rfl rfl ?_
        refine ms_bipush (n := 20) (v := 20) (p' := 62) (by decide +kernel) rfl ?_
        refine ms_icmp_ne (off := 6) (t := 68) (p' := 65) (by decide +kernel) rfl (fun hc => ?_) (fun hc => ?_)
        · refine ms_aload_n (k := 0) (p' := 69) (by decide +kernel) rfl rfl ?_
          refine ms_virt_u (idx := 324) (cy := yM_keeps) (n := 0) (a := 223) (as := []) (rest := []) (p' := 72) (by decide +kernel) rfl rfl rfl rfl (k_223 hw) rfl (fun f14 => ?_)
          refine ms_aload_n (k := 0) (p' := 73) (by decide +kernel) rfl rfl ?_
          refine ms_getr (idx := 44) (ci := 9) (k := 16) (q := 1407) (p' := 76) (by decide +kernel) rfl (k_223 hw) (r_223_16 hw) (by decide) ?_
          refine ms_bipush (n := 105) (v := 105) (p' := 78) (by decide +kernel) rfl ?_
          refine ms_iload_n (k := 2) (p' := 79) (by decide +kernel) rfl rfl ?_
          refine ms_iadd (p' := 80) (by decide +kernel) rfl ?_
          refine ms_iload_n (k := 1) (p' := 81) (by decide +kernel) rfl rfl ?_
          refine ms_iast (p' := 82) (by decide +kernel) rfl (k_234 hw) (fun hj15 => ?_)
          refine ms_aload_n (k := 0) (p' := 83) (by decide +kernel) rfl rfl ?_
          refine ms_getr (idx := 44) (ci := 9) (k := 16) (q := 1407) (p' := 86) (by decide +kernel) rfl (k_223 hw) (r_223_16 hw) (by decide) ?_
          refine ms_bipush (n := 104) (v := 104) (p' := 88) (by decide +kernel) rfl ?_
          refine ms_dup2 (p' := 89) (by decide +kernel) rfl ?_
          refine Eq.trans (ms_iald (p' := 90) (by decide +kernel) rfl (k_234 hw) (fun hj16 => ?_)) (mj_gd_pos (by decide) _)
          refine ms_iconst (n := 1) (v := 1) (p' := 91) (by decide +kernel) rfl ?_
          refine ms_iadd (p' := 92) (by decide +kernel) rfl ?_
          refine Eq.trans (ms_iast (p' := 93) (by decide +kernel) rfl (k_234 hw) (fun hj17 => ?_)) (mj_gd_pos (by decide) _)
          refine ms_aload_n (k := 0) (p' := 94) (by decide +kernel) rfl rfl ?_
          refine ms_virt_i (idx := 435) (cy := yM_traced) (n := 0) (a := 223) (as := []) (rest := []) (p' := 97) (by decide +kernel) rfl rfl rfl rfl (k_223 hw) rfl (fun f18 v19 => ?_)
          exact ms_iret (by decide +kernel)
        · refine ms_bipush (n := (-3)) (v := (-3)) (p' := 67) (by decide +kernel) rfl ?_
          exact ms_iret (by decide +kernel)
      · refine ms_bipush (n := (-2)) (v := (-2)) (p' := 58) (by decide +kernel) rfl ?_
        exact ms_iret (by decide +kernel)
  · refine ms_iconst (n := (-1)) (v := (-1)) (p' := 14) (by decide +kernel) rfl ?_
    exact ms_iret (by decide +kernel)
theorem c_M_lead {sw : Bool} {w : mj_W} (hw : wk sw w) (f : mj_F) (x1 : Int)  : mj_call yM_lead w f [.inr (.inl 223), .inl x1] = if x1 = (-1) then if x1 = (-1) then mj_bu (mj_call yM_keeps w (mj_u f 223 0 0) [.inr (.inl 223)]) (fun f1 => if ¬ x1 = (-1) then if 20 ≤ (f1 223 56) then mj_run yM_lead w (mj_u f1 234 (104 : Int).toNat 20) 76 [.inr (.inl 223), .inl x1, .inl 0] [] else mj_run yM_lead w (mj_u f1 234 (104 : Int).toNat (f1 223 56)) 76 [.inr (.inl 223), .inl x1, .inl 0] [] else mj_run yM_lead w (mj_u f1 234 (104 : Int).toNat 0) 76 [.inr (.inl 223), .inl x1, .inl 0] []) else mj_bi (mj_call yM_laysRoad w (mj_u f 223 0 0) [.inr (.inl 223), .inl x1]) (fun f5 v6 => if ¬ v6 = 0 then mj_bu (mj_call yM_keeps w f5 [.inr (.inl 223)]) (fun f7 => if ¬ x1 = (-1) then if 20 ≤ (f7 223 56) then mj_run yM_lead w (mj_u f7 234 (104 : Int).toNat 20) 76 [.inr (.inl 223), .inl x1, .inl 0] [] else mj_run yM_lead w (mj_u f7 234 (104 : Int).toNat (f7 223 56)) 76 [.inr (.inl 223), .inl x1, .inl 0] [] else mj_run yM_lead w (mj_u f7 234 (104 : Int).toNat 0) 76 [.inr (.inl 223), .inl x1, .inl 0] []) else some (w, f5, some (.inl (-2)))) else mj_bi (mj_call yM_isPlace w (mj_u f 223 0 0) [.inr (.inl 223), .inl x1]) (fun f11 v12 => if ¬ v12 = 0 then if x1 = (-1) then mj_bu (mj_call yM_keeps w f11 [.inr (.inl 223)]) (fun f13 => if ¬ x1 = (-1) then if 20 ≤ (f13 223 56) then mj_run yM_lead w (mj_u f13 234 (104 : Int).toNat 20) 76 [.inr (.inl 223), .inl x1, .inl 0] [] else mj_run yM_lead w (mj_u f13 234 (104 : Int).toNat (f13 223 56)) 76 [.inr (.inl 223), .inl x1, .inl 0] [] else mj_run yM_lead w (mj_u f13 234 (104 : Int).toNat 0) 76 [.inr (.inl 223), .inl x1, .inl 0] []) else mj_bi (mj_call yM_laysRoad w f11 [.inr (.inl 223), .inl x1]) (fun f17 v18 => if ¬ v18 = 0 then mj_bu (mj_call yM_keeps w f17 [.inr (.inl 223)]) (fun f19 => if ¬ x1 = (-1) then if 20 ≤ (f19 223 56) then mj_run yM_lead w (mj_u f19 234 (104 : Int).toNat 20) 76 [.inr (.inl 223), .inl x1, .inl 0] [] else mj_run yM_lead w (mj_u f19 234 (104 : Int).toNat (f19 223 56)) 76 [.inr (.inl 223), .inl x1, .inl 0] [] else mj_run yM_lead w (mj_u f19 234 (104 : Int).toNat 0) 76 [.inr (.inl 223), .inl x1, .inl 0] []) else some (w, f17, some (.inl (-2)))) else some (w, f11, some (.inl (-1)))) := by
  show mj_run yM_lead w f 0 [.inr (.inl 223), .inl x1, .inr (.inr (.inr 0))] [] = _
  refine ms_aload_n (k := 0) (p' := 1) (by decide +kernel) rfl rfl ?_
  refine ms_iconst (n := 0) (v := 0) (p' := 2) (by decide +kernel) rfl ?_
  refine ms_puti (idx := 1) (ci := 9) (k := 0) (q := 1391) (p' := 5) (by decide +kernel) rfl (k_223 hw) ?_
  refine ms_iload_n (k := 1) (p' := 6) (by decide +kernel) rfl rfl ?_
  refine ms_iconst (n := (-1)) (v := (-1)) (p' := 7) (by decide +kernel) rfl ?_
  refine ms_icmp_eq (off := 13) (t := 20) (p' := 10) (by decide +kernel) rfl (fun hc => ?_) (fun hc => ?_)
  · refine ms_iload_n (k := 1) (p' := 21) (by decide +kernel) rfl rfl ?_
    refine ms_iconst (n := (-1)) (v := (-1)) (p' := 22) (by decide +kernel) rfl ?_
    refine ms_icmp_eq (off := 14) (t := 36) (p' := 25) (by decide +kernel) rfl (fun hc => ?_) (fun hc => ?_)
    · refine ms_aload_n (k := 0) (p' := 37) (by decide +kernel) rfl rfl ?_
      refine ms_virt_u (idx := 324) (cy := yM_keeps) (n := 0) (a := 223) (as := []) (rest := []) (p' := 40) (by decide +kernel) rfl rfl rfl rfl (k_223 hw) rfl (fun f1 => ?_)
      refine ms_aload_n (k := 0) (p' := 41) (by decide +kernel) rfl rfl ?_
      refine ms_getr (idx := 44) (ci := 9) (k := 16) (q := 1407) (p' := 44) (by decide +kernel) rfl (k_223 hw) (r_223_16 hw) (by decide) ?_
      refine ms_bipush (n := 104) (v := 104) (p' := 46) (by decide +kernel) rfl ?_
      refine ms_iload_n (k := 1) (p' := 47) (by decide +kernel) rfl rfl ?_
      refine ms_iconst (n := (-1)) (v := (-1)) (p' := 48) (by decide +kernel) rfl ?_
      refine ms_icmp_ne (off := 7) (t := 55) (p' := 51) (by decide +kernel) rfl (fun hc => ?_) (fun hc => ?_)
      · refine ms_aload_n (k := 0) (p' := 56) (by decide +kernel) rfl rfl ?_
        refine ms_geti (idx := 414) (ci := 9) (k := 56) (q := 1447) (p' := 59) (by decide +kernel) rfl (k_223 hw) ?_
        refine ms_bipush (n := 20) (v := 20) (p' := 61) (by decide +kernel) rfl ?_
        refine ms_icmp_ge (off := 10) (t := 71) (p' := 64) (by decide +kernel) rfl (fun hc => ?_) (fun hc => ?_)
        · refine ms_bipush (n := 20) (v := 20) (p' := 73) (by decide +kernel) rfl ?_
          refine Eq.trans (ms_iast (p' := 74) (by decide +kernel) rfl (k_234 hw) (fun hj2 => ?_)) (mj_gd_pos (by decide) _)
          refine ms_iconst (n := 0) (v := 0) (p' := 75) (by decide +kernel) rfl ?_
          refine ms_istore_n (k := 2) (ls' := [.inr (.inl 223), .inl x1, .inl 0]) (p' := 76) (by decide +kernel) rfl (Nat.le_of_ble_eq_true rfl) rfl ?_
          rfl
        · refine ms_aload_n (k := 0) (p' := 65) (by decide +kernel) rfl rfl ?_
          refine ms_geti (idx := 414) (ci := 9) (k := 56) (q := 1447) (p' := 68) (by decide +kernel) rfl (k_223 hw) ?_
          refine ms_goto (off := 5) (p' := 73) (by decide +kernel) ?_
          refine Eq.trans (ms_iast (p' := 74) (by decide +kernel) rfl (k_234 hw) (fun hj3 => ?_)) (mj_gd_pos (by decide) _)
          refine ms_iconst (n := 0) (v := 0) (p' := 75) (by decide +kernel) rfl ?_
          refine ms_istore_n (k := 2) (ls' := [.inr (.inl 223), .inl x1, .inl 0]) (p' := 76) (by decide +kernel) rfl (Nat.le_of_ble_eq_true rfl) rfl ?_
          rfl
      · refine ms_iconst (n := 0) (v := 0) (p' := 52) (by decide +kernel) rfl ?_
        refine ms_goto (off := 21) (p' := 73) (by decide +kernel) ?_
        refine Eq.trans (ms_iast (p' := 74) (by decide +kernel) rfl (k_234 hw) (fun hj4 => ?_)) (mj_gd_pos (by decide) _)
        refine ms_iconst (n := 0) (v := 0) (p' := 75) (by decide +kernel) rfl ?_
        refine ms_istore_n (k := 2) (ls' := [.inr (.inl 223), .inl x1, .inl 0]) (p' := 76) (by decide +kernel) rfl (Nat.le_of_ble_eq_true rfl) rfl ?_
        rfl
    · refine ms_aload_n (k := 0) (p' := 26) (by decide +kernel) rfl rfl ?_
      refine ms_iload_n (k := 1) (p' := 27) (by decide +kernel) rfl rfl ?_
      refine ms_virt_i (idx := 417) (cy := yM_laysRoad) (n := 1) (a := 223) (as := [.inl x1]) (rest := []) (p' := 30) (by decide +kernel) rfl rfl rfl rfl (k_223 hw) rfl (fun f5 v6 => ?_)
      refine ms_if_ne (off := 6) (t := 36) (p' := 33) (by decide +kernel) rfl (fun hc => ?_) (fun hc => ?_)
      · refine ms_aload_n (k := 0) (p' := 37) (by decide +kernel) rfl rfl ?_
        refine ms_virt_u (idx := 324) (cy := yM_keeps) (n := 0) (a := 223) (as := []) (rest := []) (p' := 40) (by decide +kernel) rfl rfl rfl rfl (k_223 hw) rfl (fun f7 => ?_)
        refine ms_aload_n (k := 0) (p' := 41) (by decide +kernel) rfl rfl ?_
        refine ms_getr (idx := 44) (ci := 9) (k := 16) (q := 1407) (p' := 44) (by decide +kernel) rfl (k_223 hw) (r_223_16 hw) (by decide) ?_
        refine ms_bipush (n := 104) (v := 104) (p' := 46) (by decide +kernel) rfl ?_
        refine ms_iload_n (k := 1) (p' := 47) (by decide +kernel) rfl rfl ?_
        refine ms_iconst (n := (-1)) (v := (-1)) (p' := 48) (by decide +kernel) rfl ?_
        refine ms_icmp_ne (off := 7) (t := 55) (p' := 51) (by decide +kernel) rfl (fun hc => ?_) (fun hc => ?_)
        · refine ms_aload_n (k := 0) (p' := 56) (by decide +kernel) rfl rfl ?_
          refine ms_geti (idx := 414) (ci := 9) (k := 56) (q := 1447) (p' := 59) (by decide +kernel) rfl (k_223 hw) ?_
          refine ms_bipush (n := 20) (v := 20) (p' := 61) (by decide +kernel) rfl ?_
          refine ms_icmp_ge (off := 10) (t := 71) (p' := 64) (by decide +kernel) rfl (fun hc => ?_) (fun hc => ?_)
          · refine ms_bipush (n := 20) (v := 20) (p' := 73) (by decide +kernel) rfl ?_
            refine Eq.trans (ms_iast (p' := 74) (by decide +kernel) rfl (k_234 hw) (fun hj8 => ?_)) (mj_gd_pos (by decide) _)
            refine ms_iconst (n := 0) (v := 0) (p' := 75) (by decide +kernel) rfl ?_
            refine ms_istore_n (k := 2) (ls' := [.inr (.inl 223), .inl x1, .inl 0]) (p' := 76) (by decide +kernel) rfl (Nat.le_of_ble_eq_true rfl) rfl ?_
            rfl
          · refine ms_aload_n (k := 0) (p' := 65) (by decide +kernel) rfl rfl ?_
            refine ms_geti (idx := 414) (ci := 9) (k := 56) (q := 1447) (p' := 68) (by decide +kernel) rfl (k_223 hw) ?_
            refine ms_goto (off := 5) (p' := 73) (by decide +kernel) ?_
            refine Eq.trans (ms_iast (p' := 74) (by decide +kernel) rfl (k_234 hw) (fun hj9 => ?_)) (mj_gd_pos (by decide) _)
            refine ms_iconst (n := 0) (v := 0) (p' := 75) (by decide +kernel) rfl ?_
            refine ms_istore_n (k := 2) (ls' := [.inr (.inl 223), .inl x1, .inl 0]) (p' := 76) (by decide +kernel) rfl (Nat.le_of_ble_eq_true rfl) rfl ?_
            rfl
        · refine ms_iconst (n := 0) (v := 0) (p' := 52) (by decide +kernel) rfl ?_
          refine ms_goto (off := 21) (p' := 73) (by decide +kernel) ?_
          refine Eq.trans (ms_iast (p' := 74) (by decide +kernel) rfl (k_234 hw) (fun hj10 => ?_)) (mj_gd_pos (by decide) _)
          refine ms_iconst (n := 0) (v := 0) (p' := 75) (by decide +kernel) rfl ?_
          refine ms_istore_n (k := 2) (ls' := [.inr (.inl 223), .inl x1, .inl 0]) (p' := 76) (by decide +kernel) rfl (Nat.le_of_ble_eq_true rfl) rfl ?_
          rfl
      · refine ms_bipush (n := (-2)) (v := (-2)) (p' := 35) (by decide +kernel) rfl ?_
        exact ms_iret (by decide +kernel)
  · refine ms_aload_n (k := 0) (p' := 11) (by decide +kernel) rfl rfl ?_
    refine ms_iload_n (k := 1) (p' := 12) (by decide +kernel) rfl rfl ?_
    refine ms_virt_i (idx := 368) (cy := yM_isPlace) (n := 1) (a := 223) (as := [.inl x1]) (rest := []) (p' := 15) (by decide +kernel) rfl rfl rfl rfl (k_223 hw) rfl (fun f11 v12 => ?_)
    refine ms_if_ne (off := 5) (t := 20) (p' := 18) (by decide +kernel) rfl (fun hc => ?_) (fun hc => ?_)
    · refine ms_iload_n (k := 1) (p' := 21) (by decide +kernel) rfl rfl ?_
      refine ms_iconst (n := (-1)) (v := (-1)) (p' := 22) (by decide +kernel) rfl ?_
      refine ms_icmp_eq (off := 14) (t := 36) (p' := 25) (by decide +kernel) rfl (fun hc => ?_) (fun hc => ?_)
      · refine ms_aload_n (k := 0) (p' := 37) (by decide +kernel) rfl rfl ?_
        refine ms_virt_u (idx := 324) (cy := yM_keeps) (n := 0) (a := 223) (as := []) (rest := []) (p' := 40) (by decide +kernel) rfl rfl rfl rfl (k_223 hw) rfl (fun f13 => ?_)
        refine ms_aload_n (k := 0) (p' := 41) (by decide +kernel) rfl rfl ?_
        refine ms_getr (idx := 44) (ci := 9) (k := 16) (q := 1407) (p' := 44) (by decide +kernel) rfl (k_223 hw) (r_223_16 hw) (by decide) ?_
        refine ms_bipush (n := 104) (v := 104) (p' := 46) (by decide +kernel) rfl ?_
        refine ms_iload_n (k := 1) (p' := 47) (by decide +kernel) rfl rfl ?_
        refine ms_iconst (n := (-1)) (v := (-1)) (p' := 48) (by decide +kernel) rfl ?_
        refine ms_icmp_ne (off := 7) (t := 55) (p' := 51) (by decide +kernel) rfl (fun hc => ?_) (fun hc => ?_)
        · refine ms_aload_n (k := 0) (p' := 56) (by decide +kernel) rfl rfl ?_
          refine ms_geti (idx := 414) (ci := 9) (k := 56) (q := 1447) (p' := 59) (by decide +kernel) rfl (k_223 hw) ?_
          refine ms_bipush (n := 20) (v := 20) (p' := 61) (by decide +kernel) rfl ?_
          refine ms_icmp_ge (off := 10) (t := 71) (p' := 64) (by decide +kernel) rfl (fun hc => ?_) (fun hc => ?_)
          · refine ms_bipush (n := 20) (v := 20) (p' := 73) (by decide +kernel) rfl ?_
            refine Eq.trans (ms_iast (p' := 74) (by decide +kernel) rfl (k_234 hw) (fun hj14 => ?_)) (mj_gd_pos (by decide) _)
            refine ms_iconst (n := 0) (v := 0) (p' := 75) (by decide +kernel) rfl ?_
            refine ms_istore_n (k := 2) (ls' := [.inr (.inl 223), .inl x1, .inl 0]) (p' := 76) (by decide +kernel) rfl (Nat.le_of_ble_eq_true rfl) rfl ?_
            rfl
          · refine ms_aload_n (k := 0) (p' := 65) (by decide +kernel) rfl rfl ?_
            refine ms_geti (idx := 414) (ci := 9) (k := 56) (q := 1447) (p' := 68) (by decide +kernel) rfl (k_223 hw) ?_
            refine ms_goto (off := 5) (p' := 73) (by decide +kernel) ?_
            refine Eq.trans (ms_iast (p' := 74) (by decide +kernel) rfl (k_234 hw) (fun hj15 => ?_)) (mj_gd_pos (by decide) _)
            refine ms_iconst (n := 0) (v := 0) (p' := 75) (by decide +kernel) rfl ?_
            refine ms_istore_n (k := 2) (ls' := [.inr (.inl 223), .inl x1, .inl 0]) (p' := 76) (by decide +kernel) rfl (Nat.le_of_ble_eq_true rfl) rfl ?_
            rfl
        · refine ms_iconst (n := 0) (v := 0) (p' := 52) (by decide +kernel) rfl ?_
          refine ms_goto (off := 21) (p' := 73) (by decide +kernel) ?_
          refine Eq.trans (ms_iast (p' := 74) (by decide +kernel) rfl (k_234 hw) (fun hj16 => ?_)) (mj_gd_pos (by decide) _)
          refine ms_iconst (n := 0) (v := 0) (p' := 75) (by decide +kernel) rfl ?_
          refine ms_istore_n (k := 2) (ls' := [.inr (.inl 223), .inl x1, .inl 0]) (p' := 76) (by decide +kernel) rfl (Nat.le_of_ble_eq_true rfl) rfl ?_
          rfl
      · refine ms_aload_n (k := 0) (p' := 26) (by decide +kernel) rfl rfl ?_
        refine ms_iload_n (k := 1) (p' := 27) (by decide +kernel) rfl rfl ?_
        refine ms_virt_i (idx := 417) (cy := yM_laysRoad) (n := 1) (a := 223) (as := [.inl x1]) (rest := []) (p' := 30) (by decide +kernel) rfl rfl rfl rfl (k_223 hw) rfl (fun f17 v18 => ?_)
        refine ms_if_ne (off := 6) (t := 36) (p' := 33) (by decide +kernel) rfl (fun hc => ?_) (fun hc => ?_)
        · refine ms_aload_n (k := 0) (p' := 37) (by decide +kernel) rfl rfl ?_
          refine ms_virt_u (idx := 324) (cy := yM_keeps) (n := 0) (a := 223) (as := []) (rest := []) (p' := 40) (by decide +kernel) rfl rfl rfl rfl (k_223 hw) rfl (fun f19 => ?_)
          refine ms_aload_n (k := 0) (p' := 41) (by decide +kernel) rfl rfl ?_
          refine ms_getr (idx := 44) (ci := 9) (k := 16) (q := 1407) (p' := 44) (by decide +kernel) rfl (k_223 hw) (r_223_16 hw) (by decide) ?_
          refine ms_bipush (n := 104) (v := 104) (p' := 46) (by decide +kernel) rfl ?_
          refine ms_iload_n (k := 1) (p' := 47) (by decide +kernel) rfl rfl ?_
          refine ms_iconst (n := (-1)) (v := (-1)) (p' := 48) (by decide +kernel) rfl ?_
          refine ms_icmp_ne (off := 7) (t := 55) (p' := 51) (by decide +kernel) rfl (fun hc => ?_) (fun hc => ?_)
          · refine ms_aload_n (k := 0) (p' := 56) (by decide +kernel) rfl rfl ?_
            refine ms_geti (idx := 414) (ci := 9) (k := 56) (q := 1447) (p' := 59) (by decide +kernel) rfl (k_223 hw) ?_
            refine ms_bipush (n := 20) (v := 20) (p' := 61) (by decide +kernel) rfl ?_
            refine ms_icmp_ge (off := 10) (t := 71) (p' := 64) (by decide +kernel) rfl (fun hc => ?_) (fun hc => ?_)
            · refine ms_bipush (n := 20) (v := 20) (p' := 73) (by decide +kernel) rfl ?_
              refine Eq.trans (ms_iast (p' := 74) (by decide +kernel) rfl (k_234 hw) (fun hj20 => ?_)) (mj_gd_pos (by decide) _)
              refine ms_iconst (n := 0) (v := 0) (p' := 75) (by decide +kernel) rfl ?_
              refine ms_istore_n (k := 2) (ls' := [.inr (.inl 223), .inl x1, .inl 0]) (p' := 76) (by decide +kernel) rfl (Nat.le_of_ble_eq_true rfl) rfl ?_
              rfl
            · refine ms_aload_n (k := 0) (p' := 65) (by decide +kernel) rfl rfl ?_
              refine ms_geti (idx := 414) (ci := 9) (k := 56) (q := 1447) (p' := 68) (by decide +kernel) rfl (k_223 hw) ?_
              refine ms_goto (off := 5) (p' := 73) (by decide +kernel) ?_
              refine Eq.trans (ms_iast (p' := 74) (by decide +kernel) rfl (k_234 hw) (fun hj21 => ?_)) (mj_gd_pos (by decide) _)
              refine ms_iconst (n := 0) (v := 0) (p' := 75) (by decide +kernel) rfl ?_
              refine ms_istore_n (k := 2) (ls' := [.inr (.inl 223), .inl x1, .inl 0]) (p' := 76) (by decide +kernel) rfl (Nat.le_of_ble_eq_true rfl) rfl ?_
              rfl
          · refine ms_iconst (n := 0) (v := 0) (p' := 52) (by decide +kernel) rfl ?_
            refine ms_goto (off := 21) (p' := 73) (by decide +kernel) ?_
            refine Eq.trans (ms_iast (p' := 74) (by decide +kernel) rfl (k_234 hw) (fun hj22 => ?_)) (mj_gd_pos (by decide) _)
            refine ms_iconst (n := 0) (v := 0) (p' := 75) (by decide +kernel) rfl ?_
            refine ms_istore_n (k := 2) (ls' := [.inr (.inl 223), .inl x1, .inl 0]) (p' := 76) (by decide +kernel) rfl (Nat.le_of_ble_eq_true rfl) rfl ?_
            rfl
        · refine ms_bipush (n := (-2)) (v := (-2)) (p' := 35) (by decide +kernel) rfl ?_
          exact ms_iret (by decide +kernel)
    · refine ms_iconst (n := (-1)) (v := (-1)) (p' := 19) (by decide +kernel) rfl ?_
      exact ms_iret (by decide +kernel)
theorem l_M_lead_76 {sw : Bool} {w : mj_W} (hw : wk sw w) (f : mj_F) (x1 : Int) (x2 : Int)  : mj_run yM_lead w f 76 [.inr (.inl 223), .inl x1, .inl x2] [] = if 20 ≤ x2 then mj_bi (mj_call yM_traced w f [.inr (.inl 223)]) (fun f23 v24 => some (w, f23, some (.inl v24))) else mj_bi (mj_call yM_traced w f [.inr (.inl 223)]) (fun f25 v26 => if v26 ≤ x2 then mj_gd (0 ≤ (mj_w (105 + x2)) ∧ (mj_w (105 + x2)) < ((125 : Nat) : Int)) (mj_run yM_lead w (mj_u f25 234 (mj_w (105 + x2)).toNat 0) 76 [.inr (.inl 223), .inl x1, .inl (mj_w (x2 + 1))] []) else mj_gd (0 ≤ x2 ∧ x2 < ((60 : Nat) : Int)) (mj_gd (0 ≤ (mj_w (105 + x2)) ∧ (mj_w (105 + x2)) < ((125 : Nat) : Int)) (mj_run yM_lead w (mj_u f25 234 (mj_w (105 + x2)).toNat (f25 254 x2.toNat)) 76 [.inr (.inl 223), .inl x1, .inl (mj_w (x2 + 1))] []))) := by
  refine ms_iload_n (k := 2) (p' := 77) (by decide +kernel) rfl rfl ?_
  refine ms_bipush (n := 20) (v := 20) (p' := 79) (by decide +kernel) rfl ?_
  refine ms_icmp_ge (off := 36) (t := 115) (p' := 82) (by decide +kernel) rfl (fun hc => ?_) (fun hc => ?_)
  · refine ms_aload_n (k := 0) (p' := 116) (by decide +kernel) rfl rfl ?_
    refine ms_virt_i (idx := 435) (cy := yM_traced) (n := 0) (a := 223) (as := []) (rest := []) (p' := 119) (by decide +kernel) rfl rfl rfl rfl (k_223 hw) rfl (fun f23 v24 => ?_)
    exact ms_iret (by decide +kernel)
  · refine ms_aload_n (k := 0) (p' := 83) (by decide +kernel) rfl rfl ?_
    refine ms_getr (idx := 44) (ci := 9) (k := 16) (q := 1407) (p' := 86) (by decide +kernel) rfl (k_223 hw) (r_223_16 hw) (by decide) ?_
    refine ms_bipush (n := 105) (v := 105) (p' := 88) (by decide +kernel) rfl ?_
    refine ms_iload_n (k := 2) (p' := 89) (by decide +kernel) rfl rfl ?_
    refine ms_iadd (p' := 90) (by decide +kernel) rfl ?_
    refine ms_iload_n (k := 2) (p' := 91) (by decide +kernel) rfl rfl ?_
    refine ms_aload_n (k := 0) (p' := 92) (by decide +kernel) rfl rfl ?_
    refine ms_virt_i (idx := 435) (cy := yM_traced) (n := 0) (a := 223) (as := []) (rest := [.inl x2, .inl (mj_w (105 + x2)), .inr (.inl 234)]) (p' := 95) (by decide +kernel) rfl rfl rfl rfl (k_223 hw) rfl (fun f25 v26 => ?_)
    refine ms_icmp_ge (off := 12) (t := 107) (p' := 98) (by decide +kernel) rfl (fun hc => ?_) (fun hc => ?_)
    · refine ms_iconst (n := 0) (v := 0) (p' := 108) (by decide +kernel) rfl ?_
      refine ms_iast (p' := 109) (by decide +kernel) rfl (k_234 hw) (fun hj27 => ?_)
      refine ms_iinc (k := 2) (n := 1) (ls' := [.inr (.inl 223), .inl x1, .inl (mj_w (x2 + 1))]) (p' := 112) (by decide +kernel) rfl rfl rfl ?_
      refine ms_goto (off := (-36)) (p' := 76) (by decide +kernel) ?_
      rfl
    · refine ms_aload_n (k := 0) (p' := 99) (by decide +kernel) rfl rfl ?_
      refine ms_getr (idx := 108) (ci := 9) (k := 55) (q := 1446) (p' := 102) (by decide +kernel) rfl (k_223 hw) (r_223_55 hw) (by decide) ?_
      refine ms_iload_n (k := 2) (p' := 103) (by decide +kernel) rfl rfl ?_
      refine ms_iald (p' := 104) (by decide +kernel) rfl (k_254 hw) (fun hj28 => ?_)
      refine ms_goto (off := 4) (p' := 108) (by decide +kernel) ?_
      refine ms_iast (p' := 109) (by decide +kernel) rfl (k_234 hw) (fun hj29 => ?_)
      refine ms_iinc (k := 2) (n := 1) (ls' := [.inr (.inl 223), .inl x1, .inl (mj_w (x2 + 1))]) (p' := 112) (by decide +kernel) rfl rfl rfl ?_
      refine ms_goto (off := (-36)) (p' := 76) (by decide +kernel) ?_
      rfl
theorem c_M_trace {sw : Bool} {w : mj_W} (hw : wk sw w) (f : mj_F) (x1 : Int)  : mj_call yM_trace w f [.inr (.inl 223), .inl x1] = if (-1) ≤ x1 then if ¬ x1 = (-1) then mj_bi (mj_call yM_traced w (mj_u f 223 0 0) [.inr (.inl 223)]) (fun f1 v2 => if v2 ≤ x1 then some (w, f1, some (.inl (-2))) else mj_gd (0 ≤ (mj_w (105 + x1)) ∧ (mj_w (105 + x1)) < ((125 : Nat) : Int)) (some (w, f1, some (.inl (f1 234 (mj_w (105 + x1)).toNat))))) else mj_bi (mj_call yM_traced w (mj_u f 223 0 0) [.inr (.inl 223)]) (fun f4 v5 => some (w, f4, some (.inl v5))) else some (w, (mj_u f 223 0 0), some (.inl (-1))) := by
  show mj_run yM_trace w f 0 [.inr (.inl 223), .inl x1] [] = _
  refine ms_aload_n (k := 0) (p' := 1) (by decide +kernel) rfl rfl ?_
  refine ms_iconst (n := 0) (v := 0) (p' := 2) (by decide +kernel) rfl ?_
  refine ms_puti (idx := 1) (ci := 9) (k := 0) (q := 1391) (p' := 5) (by decide +kernel) rfl (k_223 hw) ?_
  refine ms_iload_n (k := 1) (p' := 6) (by decide +kernel) rfl rfl ?_
  refine ms_iconst (n := (-1)) (v := (-1)) (p' := 7) (by decide +kernel) rfl ?_
  refine ms_icmp_ge (off := 5) (t := 12) (p' := 10) (by decide +kernel) rfl (fun hc => ?_) (fun hc => ?_)
  · refine ms_iload_n (k := 1) (p' := 13) (by decide +kernel) rfl rfl ?_
    refine ms_iconst (n := (-1)) (v := (-1)) (p' := 14) (by decide +kernel) rfl ?_
    refine ms_icmp_ne (off := 10) (t := 24) (p' := 17) (by decide +kernel) rfl (fun hc => ?_) (fun hc => ?_)
    · refine ms_iload_n (k := 1) (p' := 25) (by decide +kernel) rfl rfl ?_
      refine ms_aload_n (k := 0) (p' := 26) (by decide +kernel) rfl rfl ?_
      refine ms_virt_i (idx := 435) (cy := yM_traced) (n := 0) (a := 223) (as := []) (rest := [.inl x1]) (p' := 29) (by decide +kernel) rfl rfl rfl rfl (k_223 hw) rfl (fun f1 v2 => ?_)
      refine ms_icmp_ge (off := 15) (t := 44) (p' := 32) (by decide +kernel) rfl (fun hc => ?_) (fun hc => ?_)
      · refine ms_bipush (n := (-2)) (v := (-2)) (p' := 46) (by decide +kernel) rfl ?_
        exact ms_iret (by decide +kernel)
      · refine ms_aload_n (k := 0) (p' := 33) (by decide +kernel) rfl rfl ?_
        refine ms_getr (idx := 44) (ci := 9) (k := 16) (q := 1407) (p' := 36) (by decide +kernel) rfl (k_223 hw) (r_223_16 hw) (by decide) ?_
        refine ms_bipush (n := 105) (v := 105) (p' := 38) (by decide +kernel) rfl ?_
        refine ms_iload_n (k := 1) (p' := 39) (by decide +kernel) rfl rfl ?_
        refine ms_iadd (p' := 40) (by decide +kernel) rfl ?_
        refine ms_iald (p' := 41) (by decide +kernel) rfl (k_234 hw) (fun hj3 => ?_)
        refine ms_goto (off := 5) (p' := 46) (by decide +kernel) ?_
        exact ms_iret (by decide +kernel)
    · refine ms_aload_n (k := 0) (p' := 18) (by decide +kernel) rfl rfl ?_
      refine ms_virt_i (idx := 435) (cy := yM_traced) (n := 0) (a := 223) (as := []) (rest := []) (p' := 21) (by decide +kernel) rfl rfl rfl rfl (k_223 hw) rfl (fun f4 v5 => ?_)
      refine ms_goto (off := 25) (p' := 46) (by decide +kernel) ?_
      exact ms_iret (by decide +kernel)
  · refine ms_iconst (n := (-1)) (v := (-1)) (p' := 11) (by decide +kernel) rfl ?_
    exact ms_iret (by decide +kernel)
theorem c_M_holds {sw : Bool} {w : mj_W} (hw : wk sw w) (f : mj_F) (x0 : Int) (x1 : Int) (x2 : Int)  : mj_call yM_holds w f [.inl x0, .inl x1, .inl x2] = if ¬ x1 = 0 then if ¬ x1 = 1 then if ¬ x1 = 2 then if ¬ x1 = 3 then if x0 ≤ x2 then some (w, f, some (.inl 0)) else some (w, f, some (.inl 1)) else if x0 < x2 then some (w, f, some (.inl 0)) else some (w, f, some (.inl 1)) else if ¬ x0 = x2 then some (w, f, some (.inl 0)) else some (w, f, some (.inl 1)) else if x2 < x0 then some (w, f, some (.inl 0)) else some (w, f, some (.inl 1)) else if x2 ≤ x0 then some (w, f, some (.inl 0)) else some (w, f, some (.inl 1)) := by
  show mj_run yM_holds w f 0 [.inl x0, .inl x1, .inl x2] [] = _
  refine ms_iload_n (k := 1) (p' := 1) (by decide +kernel) rfl rfl ?_
  refine ms_if_ne (off := 16) (t := 17) (p' := 4) (by decide +kernel) rfl (fun hc => ?_) (fun hc => ?_)
  · refine ms_iload_n (k := 1) (p' := 18) (by decide +kernel) rfl rfl ?_
    refine ms_iconst (n := 1) (v := 1) (p' := 19) (by decide +kernel) rfl ?_
    refine ms_icmp_ne (off := 16) (t := 35) (p' := 22) (by decide +kernel) rfl (fun hc => ?_) (fun hc => ?_)
    · refine ms_iload_n (k := 1) (p' := 36) (by decide +kernel) rfl rfl ?_
      refine ms_iconst (n := 2) (v := 2) (p' := 37) (by decide +kernel) rfl ?_
      refine ms_icmp_ne (off := 16) (t := 53) (p' := 40) (by decide +kernel) rfl (fun hc => ?_) (fun hc => ?_)
      · refine ms_iload_n (k := 1) (p' := 54) (by decide +kernel) rfl rfl ?_
        refine ms_iconst (n := 3) (v := 3) (p' := 55) (by decide +kernel) rfl ?_
        refine ms_icmp_ne (off := 16) (t := 71) (p' := 58) (by decide +kernel) rfl (fun hc => ?_) (fun hc => ?_)
        · refine ms_iload_n (k := 0) (p' := 72) (by decide +kernel) rfl rfl ?_
          refine ms_iload_n (k := 2) (p' := 73) (by decide +kernel) rfl rfl ?_
          refine ms_icmp_le (off := 7) (t := 80) (p' := 76) (by decide +kernel) rfl (fun hc => ?_) (fun hc => ?_)
          · refine ms_iconst (n := 0) (v := 0) (p' := 81) (by decide +kernel) rfl ?_
            exact (ms_zret (by decide +kernel)).trans (mj_gd_pos (by decide) _)
          · refine ms_iconst (n := 1) (v := 1) (p' := 77) (by decide +kernel) rfl ?_
            refine ms_goto (off := 4) (p' := 81) (by decide +kernel) ?_
            exact (ms_zret (by decide +kernel)).trans (mj_gd_pos (by decide) _)
        · refine ms_iload_n (k := 0) (p' := 59) (by decide +kernel) rfl rfl ?_
          refine ms_iload_n (k := 2) (p' := 60) (by decide +kernel) rfl rfl ?_
          refine ms_icmp_lt (off := 7) (t := 67) (p' := 63) (by decide +kernel) rfl (fun hc => ?_) (fun hc => ?_)
          · refine ms_iconst (n := 0) (v := 0) (p' := 68) (by decide +kernel) rfl ?_
            refine ms_goto (off := 13) (p' := 81) (by decide +kernel) ?_
            exact (ms_zret (by decide +kernel)).trans (mj_gd_pos (by decide) _)
          · refine ms_iconst (n := 1) (v := 1) (p' := 64) (by decide +kernel) rfl ?_
            refine ms_goto (off := 17) (p' := 81) (by decide +kernel) ?_
            exact (ms_zret (by decide +kernel)).trans (mj_gd_pos (by decide) _)
      · refine ms_iload_n (k := 0) (p' := 41) (by decide +kernel) rfl rfl ?_
        refine ms_iload_n (k := 2) (p' := 42) (by decide +kernel) rfl rfl ?_
        refine ms_icmp_ne (off := 7) (t := 49) (p' := 45) (by decide +kernel) rfl (fun hc => ?_) (fun hc => ?_)
        · refine ms_iconst (n := 0) (v := 0) (p' := 50) (by decide +kernel) rfl ?_
          refine ms_goto (off := 31) (p' := 81) (by decide +kernel) ?_
          exact (ms_zret (by decide +kernel)).trans (mj_gd_pos (by decide) _)
        · refine ms_iconst (n := 1) (v := 1) (p' := 46) (by decide +kernel) rfl ?_
          refine ms_goto (off := 35) (p' := 81) (by decide +kernel) ?_
          exact (ms_zret (by decide +kernel)).trans (mj_gd_pos (by decide) _)
    · refine ms_iload_n (k := 0) (p' := 23) (by decide +kernel) rfl rfl ?_
      refine ms_iload_n (k := 2) (p' := 24) (by decide +kernel) rfl rfl ?_
      refine ms_icmp_gt (off := 7) (t := 31) (p' := 27) (by decide +kernel) rfl (fun hc => ?_) (fun hc => ?_)
      · refine ms_iconst (n := 0) (v := 0) (p' := 32) (by decide +kernel) rfl ?_
        refine ms_goto (off := 49) (p' := 81) (by decide +kernel) ?_
        exact (ms_zret (by decide +kernel)).trans (mj_gd_pos (by decide) _)
      · refine ms_iconst (n := 1) (v := 1) (p' := 28) (by decide +kernel) rfl ?_
        refine ms_goto (off := 53) (p' := 81) (by decide +kernel) ?_
        exact (ms_zret (by decide +kernel)).trans (mj_gd_pos (by decide) _)
  · refine ms_iload_n (k := 0) (p' := 5) (by decide +kernel) rfl rfl ?_
    refine ms_iload_n (k := 2) (p' := 6) (by decide +kernel) rfl rfl ?_
    refine ms_icmp_ge (off := 7) (t := 13) (p' := 9) (by decide +kernel) rfl (fun hc => ?_) (fun hc => ?_)
    · refine ms_iconst (n := 0) (v := 0) (p' := 14) (by decide +kernel) rfl ?_
      refine ms_goto (off := 67) (p' := 81) (by decide +kernel) ?_
      exact (ms_zret (by decide +kernel)).trans (mj_gd_pos (by decide) _)
    · refine ms_iconst (n := 1) (v := 1) (p' := 10) (by decide +kernel) rfl ?_
      refine ms_goto (off := 71) (p' := 81) (by decide +kernel) ?_
      exact (ms_zret (by decide +kernel)).trans (mj_gd_pos (by decide) _)
theorem c_M_holdsAt {sw : Bool} {w : mj_W} (hw : wk sw w) (f : mj_F) (x1 : Int) (x2 : Int)  : mj_call yM_holdsAt w f [.inr (.inl 223), .inl x1, .inl x2] = mj_run yM_holdsAt w f 5 [.inr (.inl 223), .inl x1, .inl x2, .inl (mj_w (6 * x1)), .inr (.inr (.inr 0))] [] := by
  show mj_run yM_holdsAt w f 0 [.inr (.inl 223), .inl x1, .inl x2, .inr (.inr (.inr 0)), .inr (.inr (.inr 0))] [] = _
  refine ms_bipush (n := 6) (v := 6) (p' := 2) (by decide +kernel) rfl ?_
  refine ms_iload_n (k := 1) (p' := 3) (by decide +kernel) rfl rfl ?_
  refine ms_imul (p' := 4) (by decide +kernel) rfl ?_
  refine ms_istore_n (k := 3) (ls' := [.inr (.inl 223), .inl x1, .inl x2, .inl (mj_w (6 * x1)), .inr (.inr (.inr 0))]) (p' := 5) (by decide +kernel) rfl (Nat.le_of_ble_eq_true rfl) rfl ?_
  rfl
theorem l_M_holdsAt_5 {sw : Bool} {w : mj_W} (hw : wk sw w) (f : mj_F) (x1 : Int) (x2 : Int) (x3 : Int) (u4 : mj_V)  : mj_run yM_holdsAt w f 5 [.inr (.inl 223), .inl x1, .inl x2, .inl x3, u4] [] = mj_gd (0 ≤ x1 ∧ x1 < ((24 : Nat) : Int)) (if (mj_w ((mj_w (6 * x1)) + (f 224 x1.toNat))) ≤ x3 then some (w, f, none) else mj_gd (0 ≤ x3 ∧ x3 < ((144 : Nat) : Int)) (mj_gd (0 ≤ (f 225 x3.toNat) ∧ (f 225 x3.toNat) < ((4 : Nat) : Int)) (if ¬ (f 255 (f 225 x3.toNat).toNat) = x2 then mj_gd (0 ≤ (f 225 x3.toNat) ∧ (f 225 x3.toNat) < ((4 : Nat) : Int)) (mj_gd (0 ≤ x3 ∧ x3 < ((144 : Nat) : Int)) (mj_gd (0 ≤ x3 ∧ x3 < ((144 : Nat) : Int)) (mj_gd (0 ≤ (f 225 x3.toNat) ∧ (f 225 x3.toNat) < ((4 : Nat) : Int)) (mj_bu (mj_call yM_meets w f [.inr (.inl 223), .inl x2, .inl (f 255 (f 225 x3.toNat).toNat), .inl (f 226 x3.toNat), .inl (mj_w ((f 227 x3.toNat) - (f 256 (f 225 x3.toNat).toNat)))]) (fun f8 => mj_run yM_holdsAt w f8 5 [.inr (.inl 223), .inl x1, .inl x2, .inl (mj_w (x3 + 1)), .inl (f 225 x3.toNat)] []))))) else mj_gd (0 ≤ (f 225 x3.toNat) ∧ (f 225 x3.toNat) < ((4 : Nat) : Int)) (mj_gd (0 ≤ x3 ∧ x3 < ((144 : Nat) : Int)) (mj_gd (0 ≤ x3 ∧ x3 < ((144 : Nat) : Int)) (mj_bi (mj_call yM_holds w f [.inl (f 256 (f 225 x3.toNat).toNat), .inl (f 226 x3.toNat), .inl (f 227 x3.toNat)]) (fun f12 v13 => if ¬ v13 = 0 then mj_gd ((mj_or (f 223 53) 0) = 0 ∨ (mj_or (f 223 53) 0) = 1) (mj_run yM_holdsAt w (mj_u f12 223 53 (mj_or (f 223 53) 0)) 5 [.inr (.inl 223), .inl x1, .inl x2, .inl (mj_w (x3 + 1)), .inl (f 225 x3.toNat)] []) else mj_gd ((mj_or (f 223 53) 1) = 0 ∨ (mj_or (f 223 53) 1) = 1) (mj_run yM_holdsAt w (mj_u f12 223 53 (mj_or (f 223 53) 1)) 5 [.inr (.inl 223), .inl x1, .inl x2, .inl (mj_w (x3 + 1)), .inl (f 225 x3.toNat)] [])))))))) := by
  refine ms_iload_n (k := 3) (p' := 6) (by decide +kernel) rfl rfl ?_
  refine ms_bipush (n := 6) (v := 6) (p' := 8) (by decide +kernel) rfl ?_
  refine ms_iload_n (k := 1) (p' := 9) (by decide +kernel) rfl rfl ?_
  refine ms_imul (p' := 10) (by decide +kernel) rfl ?_
  refine ms_aload_n (k := 0) (p' := 11) (by decide +kernel) rfl rfl ?_
  refine ms_getr (idx := 13) (ci := 9) (k := 6) (q := 1397) (p' := 14) (by decide +kernel) rfl (k_223 hw) (r_223_6 hw) (by decide) ?_
  refine ms_iload_n (k := 1) (p' := 15) (by decide +kernel) rfl rfl ?_
  refine ms_iald (p' := 16) (by decide +kernel) rfl (k_224 hw) (fun hj1 => ?_)
  refine ms_iadd (p' := 17) (by decide +kernel) rfl ?_
  refine ms_icmp_ge (off := 102) (t := 119) (p' := 20) (by decide +kernel) rfl (fun hc => ?_) (fun hc => ?_)
  · exact ms_vret (by decide +kernel)
  · refine ms_aload_n (k := 0) (p' := 21) (by decide +kernel) rfl rfl ?_
    refine ms_getr (idx := 17) (ci := 9) (k := 7) (q := 1398) (p' := 24) (by decide +kernel) rfl (k_223 hw) (r_223_7 hw) (by decide) ?_
    refine ms_iload_n (k := 3) (p' := 25) (by decide +kernel) rfl rfl ?_
    refine ms_iald (p' := 26) (by decide +kernel) rfl (k_225 hw) (fun hj2 => ?_)
    refine ms_istore (k := 4) (ls' := [.inr (.inl 223), .inl x1, .inl x2, .inl x3, .inl (f 225 x3.toNat)]) (p' := 28) (by decide +kernel) rfl (Nat.le_of_ble_eq_true rfl) rfl ?_
    refine ms_aload_n (k := 0) (p' := 29) (by decide +kernel) rfl rfl ?_
    refine ms_getr (idx := 111) (ci := 9) (k := 57) (q := 1448) (p' := 32) (by decide +kernel) rfl (k_223 hw) (r_223_57 hw) (by decide) ?_
    refine ms_iload (k := 4) (p' := 34) (by decide +kernel) rfl rfl ?_
    refine ms_iald (p' := 35) (by decide +kernel) rfl (k_255 hw) (fun hj3 => ?_)
    refine ms_iload_n (k := 2) (p' := 36) (by decide +kernel) rfl rfl ?_
    refine ms_icmp_ne (off := 45) (t := 81) (p' := 39) (by decide +kernel) rfl (fun hc => ?_) (fun hc => ?_)
    · refine ms_aload_n (k := 0) (p' := 82) (by decide +kernel) rfl rfl ?_
      refine ms_iload_n (k := 2) (p' := 83) (by decide +kernel) rfl rfl ?_
      refine ms_aload_n (k := 0) (p' := 84) (by decide +kernel) rfl rfl ?_
      refine ms_getr (idx := 111) (ci := 9) (k := 57) (q := 1448) (p' := 87) (by decide +kernel) rfl (k_223 hw) (r_223_57 hw) (by decide) ?_
      refine ms_iload (k := 4) (p' := 89) (by decide +kernel) rfl rfl ?_
      refine ms_iald (p' := 90) (by decide +kernel) rfl (k_255 hw) (fun hj4 => ?_)
      refine ms_aload_n (k := 0) (p' := 91) (by decide +kernel) rfl rfl ?_
      refine ms_getr (idx := 20) (ci := 9) (k := 8) (q := 1399) (p' := 94) (by decide +kernel) rfl (k_223 hw) (r_223_8 hw) (by decide) ?_
      refine ms_iload_n (k := 3) (p' := 95) (by decide +kernel) rfl rfl ?_
      refine ms_iald (p' := 96) (by decide +kernel) rfl (k_226 hw) (fun hj5 => ?_)
      refine ms_aload_n (k := 0) (p' := 97) (by decide +kernel) rfl rfl ?_
      refine ms_getr (idx := 23) (ci := 9) (k := 9) (q := 1400) (p' := 100) (by decide +kernel) rfl (k_223 hw) (r_223_9 hw) (by decide) ?_
      refine ms_iload_n (k := 3) (p' := 101) (by decide +kernel) rfl rfl ?_
      refine ms_iald (p' := 102) (by decide +kernel) rfl (k_227 hw) (fun hj6 => ?_)
      refine ms_aload_n (k := 0) (p' := 103) (by decide +kernel) rfl rfl ?_
      refine ms_getr (idx := 114) (ci := 9) (k := 58) (q := 1449) (p' := 106) (by decide +kernel) rfl (k_223 hw) (r_223_58 hw) (by decide) ?_
      refine ms_iload (k := 4) (p' := 108) (by decide +kernel) rfl rfl ?_
      refine ms_iald (p' := 109) (by decide +kernel) rfl (k_256 hw) (fun hj7 => ?_)
      refine ms_isub (p' := 110) (by decide +kernel) rfl ?_
      refine ms_virt_u (idx := 296) (cy := yM_meets) (n := 4) (a := 223) (as := [.inl x2, .inl (f 255 (f 225 x3.toNat).toNat), .inl (f 226 x3.toNat), .inl (mj_w ((f 227 x3.toNat) - (f 256 (f 225 x3.toNat).toNat)))]) (rest := []) (p' := 113) (by decide +kernel) rfl rfl rfl rfl (k_223 hw) rfl (fun f8 => ?_)
      refine ms_iinc (k := 3) (n := 1) (ls' := [.inr (.inl 223), .inl x1, .inl x2, .inl (mj_w (x3 + 1)), .inl (f 225 x3.toNat)]) (p' := 116) (by decide +kernel) rfl rfl rfl ?_
      refine ms_goto (off := (-111)) (p' := 5) (by decide +kernel) ?_
      rfl
    · refine ms_aload_n (k := 0) (p' := 40) (by decide +kernel) rfl rfl ?_
      refine ms_dup_a (p' := 41) (by decide +kernel) rfl ?_
      refine ms_geti (idx := 289) (ci := 9) (k := 53) (q := 1444) (p' := 44) (by decide +kernel) rfl (k_223 hw) ?_
      refine ms_aload_n (k := 0) (p' := 45) (by decide +kernel) rfl rfl ?_
      refine ms_getr (idx := 114) (ci := 9) (k := 58) (q := 1449) (p' := 48) (by decide +kernel) rfl (k_223 hw) (r_223_58 hw) (by decide) ?_
      refine ms_iload (k := 4) (p' := 50) (by decide +kernel) rfl rfl ?_
      refine ms_iald (p' := 51) (by decide +kernel) rfl (k_256 hw) (fun hj9 => ?_)
      refine ms_aload_n (k := 0) (p' := 52) (by decide +kernel) rfl rfl ?_
      refine ms_getr (idx := 20) (ci := 9) (k := 8) (q := 1399) (p' := 55) (by decide +kernel) rfl (k_223 hw) (r_223_8 hw) (by decide) ?_
      refine ms_iload_n (k := 3) (p' := 56) (by decide +kernel) rfl rfl ?_
      refine ms_iald (p' := 57) (by decide +kernel) rfl (k_226 hw) (fun hj10 => ?_)
      refine ms_aload_n (k := 0) (p' := 58) (by decide +kernel) rfl rfl ?_
      refine ms_getr (idx := 23) (ci := 9) (k := 9) (q := 1400) (p' := 61) (by decide +kernel) rfl (k_223 hw) (r_223_9 hw) (by decide) ?_
      refine ms_iload_n (k := 3) (p' := 62) (by decide +kernel) rfl rfl ?_
      refine ms_iald (p' := 63) (by decide +kernel) rfl (k_227 hw) (fun hj11 => ?_)
      refine ms_stat_i (idx := 429) (cy := yM_holds) (n := 3) (as := [.inl (f 256 (f 225 x3.toNat).toNat), .inl (f 226 x3.toNat), .inl (f 227 x3.toNat)]) (rest := [.inl (f 223 53), .inr (.inl 223)]) (p' := 66) (by decide +kernel) rfl rfl rfl rfl rfl (fun f12 v13 => ?_)
      refine ms_if_ne (off := 7) (t := 73) (p' := 69) (by decide +kernel) rfl (fun hc => ?_) (fun hc => ?_)
      · refine ms_iconst (n := 0) (v := 0) (p' := 74) (by decide +kernel) rfl ?_
        refine ms_ior (p' := 75) (by decide +kernel) rfl ?_
        refine ms_putz (idx := 289) (ci := 9) (k := 53) (q := 1444) (p' := 78) (by decide +kernel) rfl (k_223 hw) (fun hz_ => ?_)
        refine ms_goto (off := 35) (p' := 113) (by decide +kernel) ?_
        refine ms_iinc (k := 3) (n := 1) (ls' := [.inr (.inl 223), .inl x1, .inl x2, .inl (mj_w (x3 + 1)), .inl (f 225 x3.toNat)]) (p' := 116) (by decide +kernel) rfl rfl rfl ?_
        refine ms_goto (off := (-111)) (p' := 5) (by decide +kernel) ?_
        rfl
      · refine ms_iconst (n := 1) (v := 1) (p' := 70) (by decide +kernel) rfl ?_
        refine ms_goto (off := 4) (p' := 74) (by decide +kernel) ?_
        refine ms_ior (p' := 75) (by decide +kernel) rfl ?_
        refine ms_putz (idx := 289) (ci := 9) (k := 53) (q := 1444) (p' := 78) (by decide +kernel) rfl (k_223 hw) (fun hz_ => ?_)
        refine ms_goto (off := 35) (p' := 113) (by decide +kernel) ?_
        refine ms_iinc (k := 3) (n := 1) (ls' := [.inr (.inl 223), .inl x1, .inl x2, .inl (mj_w (x3 + 1)), .inl (f 225 x3.toNat)]) (p' := 116) (by decide +kernel) rfl rfl rfl ?_
        refine ms_goto (off := (-111)) (p' := 5) (by decide +kernel) ?_
        rfl
theorem c_M_laysTimes {sw : Bool} {w : mj_W} (hw : wk sw w) (f : mj_F) (r1 nr1 : Nat) (x2 : Int) (x3 : Int) (hr1 : w.1 r1 = (100, nr1)) : mj_call yM_laysTimes w f [.inr (.inl 223), .inr (.inl r1), .inl x2, .inl x3] = mj_bu (mj_call yM_wide w (mj_u f 223 52 (mj_w (x3 + 1))) [.inr (.inl 223)]) (fun f1 => mj_run yM_laysTimes w f1 14 [.inr (.inl 223), .inr (.inl r1), .inl x2, .inl x3, .inl 0, .inr (.inr (.inr 0)), .inr (.inr (.inr 0)), .inr (.inr (.inr 0)), .inr (.inr (.inr 0))] []) := by
  show mj_run yM_laysTimes w f 0 [.inr (.inl 223), .inr (.inl r1), .inl x2, .inl x3, .inr (.inr (.inr 0)), .inr (.inr (.inr 0)), .inr (.inr (.inr 0)), .inr (.inr (.inr 0)), .inr (.inr (.inr 0))] [] = _
  refine ms_aload_n (k := 0) (p' := 1) (by decide +kernel) rfl rfl ?_
  refine ms_iload_n (k := 3) (p' := 2) (by decide +kernel) rfl rfl ?_
  refine ms_iconst (n := 1) (v := 1) (p' := 3) (by decide +kernel) rfl ?_
  refine ms_iadd (p' := 4) (by decide +kernel) rfl ?_
  refine ms_puti (idx := 280) (ci := 9) (k := 52) (q := 1443) (p' := 7) (by decide +kernel) rfl (k_223 hw) ?_
  refine ms_aload_n (k := 0) (p' := 8) (by decide +kernel) rfl rfl ?_
  refine ms_virt_u (idx := 330) (cy := yM_wide) (n := 0) (a := 223) (as := []) (rest := []) (p' := 11) (by decide +kernel) rfl rfl rfl rfl (k_223 hw) rfl (fun f1 => ?_)
  refine ms_iconst (n := 0) (v := 0) (p' := 12) (by decide +kernel) rfl ?_
  refine ms_istore (k := 4) (ls' := [.inr (.inl 223), .inr (.inl r1), .inl x2, .inl x3, .inl 0, .inr (.inr (.inr 0)), .inr (.inr (.inr 0)), .inr (.inr (.inr 0)), .inr (.inr (.inr 0))]) (p' := 14) (by decide +kernel) rfl (Nat.le_of_ble_eq_true rfl) rfl ?_
  rfl
theorem l_M_laysTimes_14 {sw : Bool} {w : mj_W} (hw : wk sw w) (f : mj_F) (r1 nr1 : Nat) (x2 : Int) (x3 : Int) (x4 : Int) (hr1 : w.1 r1 = (100, nr1)) : mj_run yM_laysTimes w f 14 [.inr (.inl 223), .inr (.inl r1), .inl x2, .inl x3, .inl x4, .inr (.inr (.inr 0)), .inr (.inr (.inr 0)), .inr (.inr (.inr 0)), .inr (.inr (.inr 0))] [] = if 4 ≤ x4 then mj_bu (mj_call yM_holdsAt w f [.inr (.inl 223), .inl (f 223 5), .inl 0]) (fun f2 => mj_run yM_laysTimes w f2 60 [.inr (.inl 223), .inr (.inl r1), .inl x2, .inl x3, .inl (f2 223 5), .inl 0, .inr (.inr (.inr 0)), .inr (.inr (.inr 0)), .inr (.inr (.inr 0))] []) else mj_gd (0 ≤ x4 ∧ x4 < ((4 : Nat) : Int)) (mj_gd (0 ≤ x4 ∧ x4 < ((4 : Nat) : Int)) (mj_run yM_laysTimes w (mj_u (mj_u f 255 x4.toNat 0) 256 x4.toNat 0) 14 [.inr (.inl 223), .inr (.inl r1), .inl x2, .inl x3, .inl (mj_w (x4 + 1)), .inr (.inr (.inr 0)), .inr (.inr (.inr 0)), .inr (.inr (.inr 0)), .inr (.inr (.inr 0))] [])) := by
  refine ms_iload (k := 4) (p' := 16) (by decide +kernel) rfl rfl ?_
  refine ms_iconst (n := 4) (v := 4) (p' := 17) (by decide +kernel) rfl ?_
  refine ms_icmp_ge (off := 25) (t := 42) (p' := 20) (by decide +kernel) rfl (fun hc => ?_) (fun hc => ?_)
  · refine ms_aload_n (k := 0) (p' := 43) (by decide +kernel) rfl rfl ?_
    refine ms_aload_n (k := 0) (p' := 44) (by decide +kernel) rfl rfl ?_
    refine ms_geti (idx := 251) (ci := 9) (k := 5) (q := 1396) (p' := 47) (by decide +kernel) rfl (k_223 hw) ?_
    refine ms_iconst (n := 0) (v := 0) (p' := 48) (by decide +kernel) rfl ?_
    refine ms_virt_u (idx := 432) (cy := yM_holdsAt) (n := 2) (a := 223) (as := [.inl (f 223 5), .inl 0]) (rest := []) (p' := 51) (by decide +kernel) rfl rfl rfl rfl (k_223 hw) rfl (fun f2 => ?_)
    refine ms_aload_n (k := 0) (p' := 52) (by decide +kernel) rfl rfl ?_
    refine ms_geti (idx := 251) (ci := 9) (k := 5) (q := 1396) (p' := 55) (by decide +kernel) rfl (k_223 hw) ?_
    refine ms_istore (k := 4) (ls' := [.inr (.inl 223), .inr (.inl r1), .inl x2, .inl x3, .inl (f2 223 5), .inr (.inr (.inr 0)), .inr (.inr (.inr 0)), .inr (.inr (.inr 0)), .inr (.inr (.inr 0))]) (p' := 57) (by decide +kernel) rfl (Nat.le_of_ble_eq_true rfl) rfl ?_
    refine ms_iconst (n := 0) (v := 0) (p' := 58) (by decide +kernel) rfl ?_
    refine ms_istore (k := 5) (ls' := [.inr (.inl 223), .inr (.inl r1), .inl x2, .inl x3, .inl (f2 223 5), .inl 0, .inr (.inr (.inr 0)), .inr (.inr (.inr 0)), .inr (.inr (.inr 0))]) (p' := 60) (by decide +kernel) rfl (Nat.le_of_ble_eq_true rfl) rfl ?_
    rfl
  · refine ms_aload_n (k := 0) (p' := 21) (by decide +kernel) rfl rfl ?_
    refine ms_getr (idx := 111) (ci := 9) (k := 57) (q := 1448) (p' := 24) (by decide +kernel) rfl (k_223 hw) (r_223_57 hw) (by decide) ?_
    refine ms_iload (k := 4) (p' := 26) (by decide +kernel) rfl rfl ?_
    refine ms_iconst (n := 0) (v := 0) (p' := 27) (by decide +kernel) rfl ?_
    refine ms_iast (p' := 28) (by decide +kernel) rfl (k_255 hw) (fun hj3 => ?_)
    refine ms_aload_n (k := 0) (p' := 29) (by decide +kernel) rfl rfl ?_
    refine ms_getr (idx := 114) (ci := 9) (k := 58) (q := 1449) (p' := 32) (by decide +kernel) rfl (k_223 hw) (r_223_58 hw) (by decide) ?_
    refine ms_iload (k := 4) (p' := 34) (by decide +kernel) rfl rfl ?_
    refine ms_iconst (n := 0) (v := 0) (p' := 35) (by decide +kernel) rfl ?_
    refine ms_iast (p' := 36) (by decide +kernel) rfl (k_256 hw) (fun hj4 => ?_)
    refine ms_iinc (k := 4) (n := 1) (ls' := [.inr (.inl 223), .inr (.inl r1), .inl x2, .inl x3, .inl (mj_w (x4 + 1)), .inr (.inr (.inr 0)), .inr (.inr (.inr 0)), .inr (.inr (.inr 0)), .inr (.inr (.inr 0))]) (p' := 39) (by decide +kernel) rfl rfl rfl ?_
    refine ms_goto (off := (-25)) (p' := 14) (by decide +kernel) ?_
    rfl
theorem l_M_laysTimes_60 {sw : Bool} {w : mj_W} (hw : wk sw w) (f : mj_F) (r1 nr1 : Nat) (x2 : Int) (x3 : Int) (x4 : Int) (x5 : Int) (u6 : mj_V) (u7 : mj_V) (u8 : mj_V) (hr1 : w.1 r1 = (100, nr1)) : mj_run yM_laysTimes w f 60 [.inr (.inl 223), .inr (.inl r1), .inl x2, .inl x3, .inl x4, .inl x5, u6, u7, u8] [] = if x3 ≤ x5 then mj_bu (mj_call yM_closes w f [.inr (.inl 223)]) (fun f5 => some (w, f5, none)) else mj_gd (0 ≤ (mj_w (x2 + x5)) ∧ (mj_w (x2 + x5)) < ((nr1 : Nat) : Int)) (mj_bu (mj_call yM_tightens w f [.inr (.inl 223), .inl (mj_w ((mj_w (x5 + 1)) - 1)), .inl (mj_w (x5 + 1)), .inl 1]) (fun f7 => mj_run yM_laysTimes w f7 94 [.inr (.inl 223), .inr (.inl r1), .inl x2, .inl x3, .inl x4, .inl x5, .inl (f r1 (mj_w (x2 + x5)).toNat), .inl (mj_w (x5 + 1)), .inl 0] [])) := by
  refine ms_iload (k := 5) (p' := 62) (by decide +kernel) rfl rfl ?_
  refine ms_iload_n (k := 3) (p' := 63) (by decide +kernel) rfl rfl ?_
  refine ms_icmp_ge (off := 185) (t := 248) (p' := 66) (by decide +kernel) rfl (fun hc => ?_) (fun hc => ?_)
  · refine ms_aload_n (k := 0) (p' := 249) (by decide +kernel) rfl rfl ?_
    refine ms_virt_u (idx := 300) (cy := yM_closes) (n := 0) (a := 223) (as := []) (rest := []) (p' := 252) (by decide +kernel) rfl rfl rfl rfl (k_223 hw) rfl (fun f5 => ?_)
    exact ms_vret (by decide +kernel)
  · refine ms_aload_n (k := 1) (p' := 67) (by decide +kernel) rfl rfl ?_
    refine ms_iload_n (k := 2) (p' := 68) (by decide +kernel) rfl rfl ?_
    refine ms_iload (k := 5) (p' := 70) (by decide +kernel) rfl rfl ?_
    refine ms_iadd (p' := 71) (by decide +kernel) rfl ?_
    refine ms_iald (p' := 72) (by decide +kernel) rfl hr1 (fun hj6 => ?_)
    refine ms_istore (k := 6) (ls' := [.inr (.inl 223), .inr (.inl r1), .inl x2, .inl x3, .inl x4, .inl x5, .inl (f r1 (mj_w (x2 + x5)).toNat), u7, u8]) (p' := 74) (by decide +kernel) rfl (Nat.le_of_ble_eq_true rfl) rfl ?_
    refine ms_iload (k := 5) (p' := 76) (by decide +kernel) rfl rfl ?_
    refine ms_iconst (n := 1) (v := 1) (p' := 77) (by decide +kernel) rfl ?_
    refine ms_iadd (p' := 78) (by decide +kernel) rfl ?_
    refine ms_istore (k := 7) (ls' := [.inr (.inl 223), .inr (.inl r1), .inl x2, .inl x3, .inl x4, .inl x5, .inl (f r1 (mj_w (x2 + x5)).toNat), .inl (mj_w (x5 + 1)), u8]) (p' := 80) (by decide +kernel) rfl (Nat.le_of_ble_eq_true rfl) rfl ?_
    refine ms_aload_n (k := 0) (p' := 81) (by decide +kernel) rfl rfl ?_
    refine ms_iload (k := 7) (p' := 83) (by decide +kernel) rfl rfl ?_
    refine ms_iconst (n := 1) (v := 1) (p' := 84) (by decide +kernel) rfl ?_
    refine ms_isub (p' := 85) (by decide +kernel) rfl ?_
    refine ms_iload (k := 7) (p' := 87) (by decide +kernel) rfl rfl ?_
    refine ms_iconst (n := 1) (v := 1) (p' := 88) (by decide +kernel) rfl ?_
    refine ms_virt_u (idx := 286) (cy := yM_tightens) (n := 3) (a := 223) (as := [.inl (mj_w ((mj_w (x5 + 1)) - 1)), .inl (mj_w (x5 + 1)), .inl 1]) (rest := []) (p' := 91) (by decide +kernel) rfl rfl rfl rfl (k_223 hw) rfl (fun f7 => ?_)
    refine ms_iconst (n := 0) (v := 0) (p' := 92) (by decide +kernel) rfl ?_
    refine ms_istore (k := 8) (ls' := [.inr (.inl 223), .inr (.inl r1), .inl x2, .inl x3, .inl x4, .inl x5, .inl (f r1 (mj_w (x2 + x5)).toNat), .inl (mj_w (x5 + 1)), .inl 0]) (p' := 94) (by decide +kernel) rfl (Nat.le_of_ble_eq_true rfl) rfl ?_
    rfl
theorem l_M_laysTimes_94 {sw : Bool} {w : mj_W} (hw : wk sw w) (f : mj_F) (r1 nr1 : Nat) (x2 : Int) (x3 : Int) (x4 : Int) (x5 : Int) (x6 : Int) (x7 : Int) (x8 : Int) (hr1 : w.1 r1 = (100, nr1)) : mj_run yM_laysTimes w f 94 [.inr (.inl 223), .inr (.inl r1), .inl x2, .inl x3, .inl x4, .inl x5, .inl x6, .inl x7, .inl x8] [] = if 4 ≤ x8 then mj_bu (mj_call yM_holdsAt w f [.inr (.inl 223), .inl x4, .inl x7]) (fun f8 => mj_bu (mj_call yM_holdsAt w f8 [.inr (.inl 223), .inl (mj_w (8 + x6)), .inl x7]) (fun f9 => mj_run yM_laysTimes w f9 169 [.inr (.inl 223), .inr (.inl r1), .inl x2, .inl x3, .inl x4, .inl x5, .inl x6, .inl x7, .inl (mj_w (4 * x6))] [])) else mj_gd (0 ≤ x8 ∧ x8 < ((4 : Nat) : Int)) (mj_gd (0 ≤ (mj_w ((mj_w (4 * x5)) + x8)) ∧ (mj_w ((mj_w (4 * x5)) + x8)) < ((240 : Nat) : Int)) (mj_gd (0 ≤ x8 ∧ x8 < ((4 : Nat) : Int)) (mj_gd (0 ≤ (mj_w ((mj_w (4 * x5)) + x8)) ∧ (mj_w ((mj_w (4 * x5)) + x8)) < ((240 : Nat) : Int)) (mj_run yM_laysTimes w (mj_u (mj_u f 257 (mj_w ((mj_w (4 * x5)) + x8)).toNat (f 255 x8.toNat)) 258 (mj_w ((mj_w (4 * x5)) + x8)).toNat ((mj_u f 257 (mj_w ((mj_w (4 * x5)) + x8)).toNat (f 255 x8.toNat)) 256 x8.toNat)) 94 [.inr (.inl 223), .inr (.inl r1), .inl x2, .inl x3, .inl x4, .inl x5, .inl x6, .inl x7, .inl (mj_w (x8 + 1))] [])))) := by
  refine ms_iload (k := 8) (p' := 96) (by decide +kernel) rfl rfl ?_
  refine ms_iconst (n := 4) (v := 4) (p' := 97) (by decide +kernel) rfl ?_
  refine ms_icmp_ge (off := 47) (t := 144) (p' := 100) (by decide +kernel) rfl (fun hc => ?_) (fun hc => ?_)
  · refine ms_aload_n (k := 0) (p' := 145) (by decide +kernel) rfl rfl ?_
    refine ms_iload (k := 4) (p' := 147) (by decide +kernel) rfl rfl ?_
    refine ms_iload (k := 7) (p' := 149) (by decide +kernel) rfl rfl ?_
    refine ms_virt_u (idx := 432) (cy := yM_holdsAt) (n := 2) (a := 223) (as := [.inl x4, .inl x7]) (rest := []) (p' := 152) (by decide +kernel) rfl rfl rfl rfl (k_223 hw) rfl (fun f8 => ?_)
    refine ms_aload_n (k := 0) (p' := 153) (by decide +kernel) rfl rfl ?_
    refine ms_bipush (n := 8) (v := 8) (p' := 155) (by decide +kernel) rfl ?_
    refine ms_iload (k := 6) (p' := 157) (by decide +kernel) rfl rfl ?_
    refine ms_iadd (p' := 158) (by decide +kernel) rfl ?_
    refine ms_iload (k := 7) (p' := 160) (by decide +kernel) rfl rfl ?_
    refine ms_virt_u (idx := 432) (cy := yM_holdsAt) (n := 2) (a := 223) (as := [.inl (mj_w (8 + x6)), .inl x7]) (rest := []) (p' := 163) (by decide +kernel) rfl rfl rfl rfl (k_223 hw) rfl (fun f9 => ?_)
    refine ms_iconst (n := 4) (v := 4) (p' := 164) (by decide +kernel) rfl ?_
    refine ms_iload (k := 6) (p' := 166) (by decide +kernel) rfl rfl ?_
    refine ms_imul (p' := 167) (by decide +kernel) rfl ?_
    refine ms_istore (k := 8) (ls' := [.inr (.inl 223), .inr (.inl r1), .inl x2, .inl x3, .inl x4, .inl x5, .inl x6, .inl x7, .inl (mj_w (4 * x6))]) (p' := 169) (by decide +kernel) rfl (Nat.le_of_ble_eq_true rfl) rfl ?_
    rfl
  · refine ms_aload_n (k := 0) (p' := 101) (by decide +kernel) rfl rfl ?_
    refine ms_getr (idx := 117) (ci := 9) (k := 59) (q := 1450) (p' := 104) (by decide +kernel) rfl (k_223 hw) (r_223_59 hw) (by decide) ?_
    refine ms_iconst (n := 4) (v := 4) (p' := 105) (by decide +kernel) rfl ?_
    refine ms_iload (k := 5) (p' := 107) (by decide +kernel) rfl rfl ?_
    refine ms_imul (p' := 108) (by decide +kernel) rfl ?_
    refine ms_iload (k := 8) (p' := 110) (by decide +kernel) rfl rfl ?_
    refine ms_iadd (p' := 111) (by decide +kernel) rfl ?_
    refine ms_aload_n (k := 0) (p' := 112) (by decide +kernel) rfl rfl ?_
    refine ms_getr (idx := 111) (ci := 9) (k := 57) (q := 1448) (p' := 115) (by decide +kernel) rfl (k_223 hw) (r_223_57 hw) (by decide) ?_
    refine ms_iload (k := 8) (p' := 117) (by decide +kernel) rfl rfl ?_
    refine ms_iald (p' := 118) (by decide +kernel) rfl (k_255 hw) (fun hj10 => ?_)
    refine ms_iast (p' := 119) (by decide +kernel) rfl (k_257 hw) (fun hj11 => ?_)
    refine ms_aload_n (k := 0) (p' := 120) (by decide +kernel) rfl rfl ?_
    refine ms_getr (idx := 120) (ci := 9) (k := 60) (q := 1451) (p' := 123) (by decide +kernel) rfl (k_223 hw) (r_223_60 hw) (by decide) ?_
    refine ms_iconst (n := 4) (v := 4) (p' := 124) (by decide +kernel) rfl ?_
    refine ms_iload (k := 5) (p' := 126) (by decide +kernel) rfl rfl ?_
    refine ms_imul (p' := 127) (by decide +kernel) rfl ?_
    refine ms_iload (k := 8) (p' := 129) (by decide +kernel) rfl rfl ?_
    refine ms_iadd (p' := 130) (by decide +kernel) rfl ?_
    refine ms_aload_n (k := 0) (p' := 131) (by decide +kernel) rfl rfl ?_
    refine ms_getr (idx := 114) (ci := 9) (k := 58) (q := 1449) (p' := 134) (by decide +kernel) rfl (k_223 hw) (r_223_58 hw) (by decide) ?_
    refine ms_iload (k := 8) (p' := 136) (by decide +kernel) rfl rfl ?_
    refine ms_iald (p' := 137) (by decide +kernel) rfl (k_256 hw) (fun hj12 => ?_)
    refine ms_iast (p' := 138) (by decide +kernel) rfl (k_258 hw) (fun hj13 => ?_)
    refine ms_iinc (k := 8) (n := 1) (ls' := [.inr (.inl 223), .inr (.inl r1), .inl x2, .inl x3, .inl x4, .inl x5, .inl x6, .inl x7, .inl (mj_w (x8 + 1))]) (p' := 141) (by decide +kernel) rfl rfl rfl ?_
    refine ms_goto (off := (-47)) (p' := 94) (by decide +kernel) ?_
    rfl
theorem l_M_laysTimes_169 {sw : Bool} {w : mj_W} (hw : wk sw w) (f : mj_F) (r1 nr1 : Nat) (x2 : Int) (x3 : Int) (x4 : Int) (x5 : Int) (x6 : Int) (x7 : Int) (x8 : Int) (hr1 : w.1 r1 = (100, nr1)) : mj_run yM_laysTimes w f 169 [.inr (.inl 223), .inr (.inl r1), .inl x2, .inl x3, .inl x4, .inl x5, .inl x6, .inl x7, .inl x8] [] = mj_gd (0 ≤ x6 ∧ x6 < ((16 : Nat) : Int)) (if (mj_w ((mj_w (4 * x6)) + (f 230 x6.toNat))) ≤ x8 then mj_gd (0 ≤ x6 ∧ x6 < ((16 : Nat) : Int)) (mj_bu (mj_call yM_holdsAt w f [.inr (.inl 223), .inl (f 229 x6.toNat), .inl x7]) (fun f16 => mj_run yM_laysTimes w f16 60 [.inr (.inl 223), .inr (.inl r1), .inl x2, .inl x3, .inl (f 229 x6.toNat), .inl (mj_w (x5 + 1)), .inl x6, .inl x7, .inl x8] [])) else mj_gd (0 ≤ x8 ∧ x8 < ((64 : Nat) : Int)) (mj_gd (0 ≤ (f 231 x8.toNat) ∧ (f 231 x8.toNat) < ((4 : Nat) : Int)) (mj_gd (0 ≤ x8 ∧ x8 < ((64 : Nat) : Int)) (mj_gd (0 ≤ x8 ∧ x8 < ((64 : Nat) : Int)) (mj_gd (0 ≤ ((mj_u f 255 (f 231 x8.toNat).toNat x7) 231 x8.toNat) ∧ ((mj_u f 255 (f 231 x8.toNat).toNat x7) 231 x8.toNat) < ((4 : Nat) : Int)) (mj_run yM_laysTimes w (mj_u (mj_u f 255 (f 231 x8.toNat).toNat x7) 256 ((mj_u f 255 (f 231 x8.toNat).toNat x7) 231 x8.toNat).toNat ((mj_u f 255 (f 231 x8.toNat).toNat x7) 232 x8.toNat)) 169 [.inr (.inl 223), .inr (.inl r1), .inl x2, .inl x3, .inl x4, .inl x5, .inl x6, .inl x7, .inl (mj_w (x8 + 1))] [])))))) := by
  refine ms_iload (k := 8) (p' := 171) (by decide +kernel) rfl rfl ?_
  refine ms_iconst (n := 4) (v := 4) (p' := 172) (by decide +kernel) rfl ?_
  refine ms_iload (k := 6) (p' := 174) (by decide +kernel) rfl rfl ?_
  refine ms_imul (p' := 175) (by decide +kernel) rfl ?_
  refine ms_aload_n (k := 0) (p' := 176) (by decide +kernel) rfl rfl ?_
  refine ms_getr (idx := 32) (ci := 9) (k := 12) (q := 1403) (p' := 179) (by decide +kernel) rfl (k_223 hw) (r_223_12 hw) (by decide) ?_
  refine ms_iload (k := 6) (p' := 181) (by decide +kernel) rfl rfl ?_
  refine ms_iald (p' := 182) (by decide +kernel) rfl (k_230 hw) (fun hj14 => ?_)
  refine ms_iadd (p' := 183) (by decide +kernel) rfl ?_
  refine ms_icmp_ge (off := 42) (t := 225) (p' := 186) (by decide +kernel) rfl (fun hc => ?_) (fun hc => ?_)
  · refine ms_aload_n (k := 0) (p' := 226) (by decide +kernel) rfl rfl ?_
    refine ms_getr (idx := 29) (ci := 9) (k := 11) (q := 1402) (p' := 229) (by decide +kernel) rfl (k_223 hw) (r_223_11 hw) (by decide) ?_
    refine ms_iload (k := 6) (p' := 231) (by decide +kernel) rfl rfl ?_
    refine ms_iald (p' := 232) (by decide +kernel) rfl (k_229 hw) (fun hj15 => ?_)
    refine ms_istore (k := 4) (ls' := [.inr (.inl 223), .inr (.inl r1), .inl x2, .inl x3, .inl (f 229 x6.toNat), .inl x5, .inl x6, .inl x7, .inl x8]) (p' := 234) (by decide +kernel) rfl (Nat.le_of_ble_eq_true rfl) rfl ?_
    refine ms_aload_n (k := 0) (p' := 235) (by decide +kernel) rfl rfl ?_
    refine ms_iload (k := 4) (p' := 237) (by decide +kernel) rfl rfl ?_
    refine ms_iload (k := 7) (p' := 239) (by decide +kernel) rfl rfl ?_
    refine ms_virt_u (idx := 432) (cy := yM_holdsAt) (n := 2) (a := 223) (as := [.inl (f 229 x6.toNat), .inl x7]) (rest := []) (p' := 242) (by decide +kernel) rfl rfl rfl rfl (k_223 hw) rfl (fun f16 => ?_)
    refine ms_iinc (k := 5) (n := 1) (ls' := [.inr (.inl 223), .inr (.inl r1), .inl x2, .inl x3, .inl (f 229 x6.toNat), .inl (mj_w (x5 + 1)), .inl x6, .inl x7, .inl x8]) (p' := 245) (by decide +kernel) rfl rfl rfl ?_
    refine ms_goto (off := (-185)) (p' := 60) (by decide +kernel) ?_
    rfl
  · refine ms_aload_n (k := 0) (p' := 187) (by decide +kernel) rfl rfl ?_
    refine ms_getr (idx := 111) (ci := 9) (k := 57) (q := 1448) (p' := 190) (by decide +kernel) rfl (k_223 hw) (r_223_57 hw) (by decide) ?_
    refine ms_aload_n (k := 0) (p' := 191) (by decide +kernel) rfl rfl ?_
    refine ms_getr (idx := 35) (ci := 9) (k := 13) (q := 1404) (p' := 194) (by decide +kernel) rfl (k_223 hw) (r_223_13 hw) (by decide) ?_
    refine ms_iload (k := 8) (p' := 196) (by decide +kernel) rfl rfl ?_
    refine ms_iald (p' := 197) (by decide +kernel) rfl (k_231 hw) (fun hj17 => ?_)
    refine ms_iload (k := 7) (p' := 199) (by decide +kernel) rfl rfl ?_
    refine ms_iast (p' := 200) (by decide +kernel) rfl (k_255 hw) (fun hj18 => ?_)
    refine ms_aload_n (k := 0) (p' := 201) (by decide +kernel) rfl rfl ?_
    refine ms_getr (idx := 114) (ci := 9) (k := 58) (q := 1449) (p' := 204) (by decide +kernel) rfl (k_223 hw) (r_223_58 hw) (by decide) ?_
    refine ms_aload_n (k := 0) (p' := 205) (by decide +kernel) rfl rfl ?_
    refine ms_getr (idx := 35) (ci := 9) (k := 13) (q := 1404) (p' := 208) (by decide +kernel) rfl (k_223 hw) (r_223_13 hw) (by decide) ?_
    refine ms_iload (k := 8) (p' := 210) (by decide +kernel) rfl rfl ?_
    refine ms_iald (p' := 211) (by decide +kernel) rfl (k_231 hw) (fun hj19 => ?_)
    refine ms_aload_n (k := 0) (p' := 212) (by decide +kernel) rfl rfl ?_
    refine ms_getr (idx := 38) (ci := 9) (k := 14) (q := 1405) (p' := 215) (by decide +kernel) rfl (k_223 hw) (r_223_14 hw) (by decide) ?_
    refine ms_iload (k := 8) (p' := 217) (by decide +kernel) rfl rfl ?_
    refine ms_iald (p' := 218) (by decide +kernel) rfl (k_232 hw) (fun hj20 => ?_)
    refine ms_iast (p' := 219) (by decide +kernel) rfl (k_256 hw) (fun hj21 => ?_)
    refine ms_iinc (k := 8) (n := 1) (ls' := [.inr (.inl 223), .inr (.inl r1), .inl x2, .inl x3, .inl x4, .inl x5, .inl x6, .inl x7, .inl (mj_w (x8 + 1))]) (p' := 222) (by decide +kernel) rfl rfl rfl ?_
    refine ms_goto (off := (-53)) (p' := 169) (by decide +kernel) ?_
    rfl
theorem c_M_laysTrace {sw : Bool} {w : mj_W} (hw : wk sw w) (f : mj_F)   : mj_call yM_laysTrace w f [.inr (.inl 223)] = mj_bi (mj_call yM_traced w f [.inr (.inl 223)]) (fun f1 v2 => mj_bu (mj_call yM_laysTimes w f1 [.inr (.inl 223), .inr (.inl 234), .inl 105, .inl v2]) (fun f3 => some (w, f3, none))) := by
  show mj_run yM_laysTrace w f 0 [.inr (.inl 223)] [] = _
  refine ms_aload_n (k := 0) (p' := 1) (by decide +kernel) rfl rfl ?_
  refine ms_aload_n (k := 0) (p' := 2) (by decide +kernel) rfl rfl ?_
  refine ms_getr (idx := 44) (ci := 9) (k := 16) (q := 1407) (p' := 5) (by decide +kernel) rfl (k_223 hw) (r_223_16 hw) (by decide) ?_
  refine ms_bipush (n := 105) (v := 105) (p' := 7) (by decide +kernel) rfl ?_
  refine ms_aload_n (k := 0) (p' := 8) (by decide +kernel) rfl rfl ?_
  refine ms_virt_i (idx := 435) (cy := yM_traced) (n := 0) (a := 223) (as := []) (rest := [.inl 105, .inr (.inl 234), .inr (.inl 223)]) (p' := 11) (by decide +kernel) rfl rfl rfl rfl (k_223 hw) rfl (fun f1 v2 => ?_)
  refine ms_virt_u (idx := 438) (cy := yM_laysTimes) (n := 3) (a := 223) (as := [.inr (.inl 234), .inl 105, .inl v2]) (rest := []) (p' := 14) (by decide +kernel) rfl rfl rfl rfl (k_223 hw) rfl (fun f3 => ?_)
  exact ms_vret (by decide +kernel)
theorem c_M_can {sw : Bool} {w : mj_W} (hw : wk sw w) (f : mj_F)   : mj_call yM_can w f [.inr (.inl 223)] = if ¬ (mj_u f 223 0 0 223 3) = 0 then mj_bu (mj_call yM_laysTrace w (mj_u f 223 0 0) [.inr (.inl 223)]) (fun f1 => if (f1 223 53) = 0 then some (w, f1, some (.inl 1)) else some (w, f1, some (.inl 0))) else some (w, (mj_u f 223 0 0), some (.inl (-1))) := by
  show mj_run yM_can w f 0 [.inr (.inl 223)] [] = _
  refine ms_aload_n (k := 0) (p' := 1) (by decide +kernel) rfl rfl ?_
  refine ms_iconst (n := 0) (v := 0) (p' := 2) (by decide +kernel) rfl ?_
  refine ms_puti (idx := 1) (ci := 9) (k := 0) (q := 1391) (p' := 5) (by decide +kernel) rfl (k_223 hw) ?_
  refine ms_aload_n (k := 0) (p' := 6) (by decide +kernel) rfl rfl ?_
  refine ms_geti (idx := 245) (ci := 9) (k := 3) (q := 1394) (p' := 9) (by decide +kernel) rfl (k_223 hw) ?_
  refine ms_if_ne (off := 5) (t := 14) (p' := 12) (by decide +kernel) rfl (fun hc => ?_) (fun hc => ?_)
  · refine ms_aload_n (k := 0) (p' := 15) (by decide +kernel) rfl rfl ?_
    refine ms_virt_u (idx := 442) (cy := yM_laysTrace) (n := 0) (a := 223) (as := []) (rest := []) (p' := 18) (by decide +kernel) rfl rfl rfl rfl (k_223 hw) rfl (fun f1 => ?_)
    refine ms_aload_n (k := 0) (p' := 19) (by decide +kernel) rfl rfl ?_
    refine ms_geti (idx := 289) (ci := 9) (k := 53) (q := 1444) (p' := 22) (by decide +kernel) rfl (k_223 hw) ?_
    refine ms_if_eq (off := 7) (t := 29) (p' := 25) (by decide +kernel) rfl (fun hc => ?_) (fun hc => ?_)
    · refine ms_iconst (n := 1) (v := 1) (p' := 30) (by decide +kernel) rfl ?_
      exact ms_iret (by decide +kernel)
    · refine ms_iconst (n := 0) (v := 0) (p' := 26) (by decide +kernel) rfl ?_
      refine ms_goto (off := 4) (p' := 30) (by decide +kernel) ?_
      exact ms_iret (by decide +kernel)
  · refine ms_iconst (n := (-1)) (v := (-1)) (p' := 13) (by decide +kernel) rfl ?_
    exact ms_iret (by decide +kernel)
theorem c_M_spanOf {sw : Bool} {w : mj_W} (hw : wk sw w) (f : mj_F) (x1 : Int) (x2 : Int) (x3 : Int) (x4 : Int)  : mj_call yM_spanOf w f [.inr (.inl 223), .inl x1, .inl x2, .inl x3, .inl x4] = if 2 ≤ x4 then mj_bi (mj_call yM_get w f [.inr (.inl 223), .inl x2, .inl x1]) (fun f1 v2 => if ¬ x4 = 2 then if v2 < 1000000 then some (w, f1, some (.inl (mj_and v2 1))) else some (w, f1, some (.inl 0)) else if v2 < 1000000 then mj_bi (mj_call yM_numberOf w f1 [.inl v2]) (fun f3 v4 => some (w, f3, some (.inl (mj_w (v4 + x3))))) else some (w, f1, some (.inl 10000))) else if ¬ x4 = 0 then mj_bi (mj_call yM_get w f [.inr (.inl 223), .inl x1, .inl x2]) (fun f5 v6 => some (w, f5, some (.inl (mj_and v6 1)))) else mj_bi (mj_call yM_get w f [.inr (.inl 223), .inl x1, .inl x2]) (fun f7 v8 => mj_bi (mj_call yM_numberOf w f7 [.inl v8]) (fun f9 v10 => some (w, f9, some (.inl (mj_w (x3 - v10)))))) := by
  show mj_run yM_spanOf w f 0 [.inr (.inl 223), .inl x1, .inl x2, .inl x3, .inl x4, .inr (.inr (.inr 0))] [] = _
  refine ms_iload (k := 4) (p' := 2) (by decide +kernel) rfl rfl ?_
  refine ms_iconst (n := 2) (v := 2) (p' := 3) (by decide +kernel) rfl ?_
  refine ms_icmp_ge (off := 31) (t := 34) (p' := 6) (by decide +kernel) rfl (fun hc => ?_) (fun hc => ?_)
  · refine ms_aload_n (k := 0) (p' := 35) (by decide +kernel) rfl rfl ?_
    refine ms_iload_n (k := 2) (p' := 36) (by decide +kernel) rfl rfl ?_
    refine ms_iload_n (k := 1) (p' := 37) (by decide +kernel) rfl rfl ?_
    refine ms_virt_i (idx := 272) (cy := yM_get) (n := 2) (a := 223) (as := [.inl x2, .inl x1]) (rest := []) (p' := 40) (by decide +kernel) rfl rfl rfl rfl (k_223 hw) rfl (fun f1 v2 => ?_)
    refine ms_istore (k := 5) (ls' := [.inr (.inl 223), .inl x1, .inl x2, .inl x3, .inl x4, .inl v2]) (p' := 42) (by decide +kernel) rfl (Nat.le_of_ble_eq_true rfl) rfl ?_
    refine ms_iload (k := 4) (p' := 44) (by decide +kernel) rfl rfl ?_
    refine ms_iconst (n := 2) (v := 2) (p' := 45) (by decide +kernel) rfl ?_
    refine ms_icmp_ne (off := 27) (t := 72) (p' := 48) (by decide +kernel) rfl (fun hc => ?_) (fun hc => ?_)
    · refine ms_iload (k := 5) (p' := 74) (by decide +kernel) rfl rfl ?_
      refine ms_ldc_w (idx := 271) (v := 1000000) (p' := 77) (by decide +kernel) rfl ?_
      refine ms_icmp_lt (off := 7) (t := 84) (p' := 80) (by decide +kernel) rfl (fun hc => ?_) (fun hc => ?_)
      · refine ms_iload (k := 5) (p' := 86) (by decide +kernel) rfl rfl ?_
        refine ms_iconst (n := 1) (v := 1) (p' := 87) (by decide +kernel) rfl ?_
        refine ms_iand (p' := 88) (by decide +kernel) rfl ?_
        exact ms_iret (by decide +kernel)
      · refine ms_iconst (n := 0) (v := 0) (p' := 81) (by decide +kernel) rfl ?_
        refine ms_goto (off := 7) (p' := 88) (by decide +kernel) ?_
        exact ms_iret (by decide +kernel)
    · refine ms_iload (k := 5) (p' := 50) (by decide +kernel) rfl rfl ?_
      refine ms_ldc_w (idx := 271) (v := 1000000) (p' := 53) (by decide +kernel) rfl ?_
      refine ms_icmp_lt (off := 9) (t := 62) (p' := 56) (by decide +kernel) rfl (fun hc => ?_) (fun hc => ?_)
      · refine ms_iload (k := 5) (p' := 64) (by decide +kernel) rfl rfl ?_
        refine ms_stat_i (idx := 318) (cy := yM_numberOf) (n := 1) (as := [.inl v2]) (rest := []) (p' := 67) (by decide +kernel) rfl rfl rfl rfl rfl (fun f3 v4 => ?_)
        refine ms_iload_n (k := 3) (p' := 68) (by decide +kernel) rfl rfl ?_
        refine ms_iadd (p' := 69) (by decide +kernel) rfl ?_
        refine ms_goto (off := 19) (p' := 88) (by decide +kernel) ?_
        exact ms_iret (by decide +kernel)
      · refine ms_sipush (n := 10000) (v := 10000) (p' := 59) (by decide +kernel) rfl ?_
        refine ms_goto (off := 29) (p' := 88) (by decide +kernel) ?_
        exact ms_iret (by decide +kernel)
  · refine ms_iload (k := 4) (p' := 8) (by decide +kernel) rfl rfl ?_
    refine ms_if_ne (off := 17) (t := 25) (p' := 11) (by decide +kernel) rfl (fun hc => ?_) (fun hc => ?_)
    · refine ms_aload_n (k := 0) (p' := 26) (by decide +kernel) rfl rfl ?_
      refine ms_iload_n (k := 1) (p' := 27) (by decide +kernel) rfl rfl ?_
      refine ms_iload_n (k := 2) (p' := 28) (by decide +kernel) rfl rfl ?_
      refine ms_virt_i (idx := 272) (cy := yM_get) (n := 2) (a := 223) (as := [.inl x1, .inl x2]) (rest := []) (p' := 31) (by decide +kernel) rfl rfl rfl rfl (k_223 hw) rfl (fun f5 v6 => ?_)
      refine ms_iconst (n := 1) (v := 1) (p' := 32) (by decide +kernel) rfl ?_
      refine ms_iand (p' := 33) (by decide +kernel) rfl ?_
      exact ms_iret (by decide +kernel)
    · refine ms_iload_n (k := 3) (p' := 12) (by decide +kernel) rfl rfl ?_
      refine ms_aload_n (k := 0) (p' := 13) (by decide +kernel) rfl rfl ?_
      refine ms_iload_n (k := 1) (p' := 14) (by decide +kernel) rfl rfl ?_
      refine ms_iload_n (k := 2) (p' := 15) (by decide +kernel) rfl rfl ?_
      refine ms_virt_i (idx := 272) (cy := yM_get) (n := 2) (a := 223) (as := [.inl x1, .inl x2]) (rest := [.inl x3]) (p' := 18) (by decide +kernel) rfl rfl rfl rfl (k_223 hw) rfl (fun f7 v8 => ?_)
      refine ms_stat_i (idx := 318) (cy := yM_numberOf) (n := 1) (as := [.inl v8]) (rest := [.inl x3]) (p' := 21) (by decide +kernel) rfl rfl rfl rfl rfl (fun f9 v10 => ?_)
      refine ms_isub (p' := 22) (by decide +kernel) rfl ?_
      refine ms_goto (off := 11) (p' := 33) (by decide +kernel) ?_
      exact ms_iret (by decide +kernel)
theorem c_M_window {sw : Bool} {w : mj_W} (hw : wk sw w) (f : mj_F) (x1 : Int) (x2 : Int)  : mj_call yM_window w f [.inr (.inl 223), .inl x1, .inl x2] = if x1 < 0 then some (w, (mj_u f 223 0 0), some (.inl (-1))) else mj_bi (mj_call yM_isIn w (mj_u f 223 0 0) [.inl x2, .inl 0, .inl 3]) (fun f1 v2 => if ¬ v2 = 0 then mj_bi (mj_call yM_traced w f1 [.inr (.inl 223)]) (fun f3 v4 => if x1 < v4 then mj_bu (mj_call yM_laysTrace w f3 [.inr (.inl 223)]) (fun f5 => if (f5 223 53) = 0 then mj_bi (mj_call yM_spanOf w f5 [.inr (.inl 223), .inl 0, .inl (mj_w (x1 + 1)), .inl 0, .inl x2]) (fun f6 v7 => some (w, f6, some (.inl v7))) else some (w, f5, some (.inl (-3)))) else some (w, f3, some (.inl (-2)))) else some (w, f1, some (.inl (-1)))) := by
  show mj_run yM_window w f 0 [.inr (.inl 223), .inl x1, .inl x2] [] = _
  refine ms_aload_n (k := 0) (p' := 1) (by decide +kernel) rfl rfl ?_
  refine ms_iconst (n := 0) (v := 0) (p' := 2) (by decide +kernel) rfl ?_
  refine ms_puti (idx := 1) (ci := 9) (k := 0) (q := 1391) (p' := 5) (by decide +kernel) rfl (k_223 hw) ?_
  refine ms_iload_n (k := 1) (p' := 6) (by decide +kernel) rfl rfl ?_
  refine ms_if_lt (off := 12) (t := 18) (p' := 9) (by decide +kernel) rfl (fun hc => ?_) (fun hc => ?_)
  · refine ms_iconst (n := (-1)) (v := (-1)) (p' := 19) (by decide +kernel) rfl ?_
    exact ms_iret (by decide +kernel)
  · refine ms_iload_n (k := 2) (p' := 10) (by decide +kernel) rfl rfl ?_
    refine ms_iconst (n := 0) (v := 0) (p' := 11) (by decide +kernel) rfl ?_
    refine ms_iconst (n := 3) (v := 3) (p' := 12) (by decide +kernel) rfl ?_
    refine ms_stat_i (idx := 158) (cy := yM_isIn) (n := 3) (as := [.inl x2, .inl 0, .inl 3]) (rest := []) (p' := 15) (by decide +kernel) rfl rfl rfl rfl rfl (fun f1 v2 => ?_)
    refine ms_if_ne (off := 5) (t := 20) (p' := 18) (by decide +kernel) rfl (fun hc => ?_) (fun hc => ?_)
    · refine ms_iload_n (k := 1) (p' := 21) (by decide +kernel) rfl rfl ?_
      refine ms_aload_n (k := 0) (p' := 22) (by decide +kernel) rfl rfl ?_
      refine ms_virt_i (idx := 435) (cy := yM_traced) (n := 0) (a := 223) (as := []) (rest := [.inl x1]) (p' := 25) (by decide +kernel) rfl rfl rfl rfl (k_223 hw) rfl (fun f3 v4 => ?_)
      refine ms_icmp_lt (off := 6) (t := 31) (p' := 28) (by decide +kernel) rfl (fun hc => ?_) (fun hc => ?_)
      · refine ms_aload_n (k := 0) (p' := 32) (by decide +kernel) rfl rfl ?_
        refine ms_virt_u (idx := 442) (cy := yM_laysTrace) (n := 0) (a := 223) (as := []) (rest := []) (p' := 35) (by decide +kernel) rfl rfl rfl rfl (k_223 hw) rfl (fun f5 => ?_)
        refine ms_aload_n (k := 0) (p' := 36) (by decide +kernel) rfl rfl ?_
        refine ms_geti (idx := 289) (ci := 9) (k := 53) (q := 1444) (p' := 39) (by decide +kernel) rfl (k_223 hw) ?_
        refine ms_if_eq (off := 8) (t := 47) (p' := 42) (by decide +kernel) rfl (fun hc => ?_) (fun hc => ?_)
        · refine ms_aload_n (k := 0) (p' := 48) (by decide +kernel) rfl rfl ?_
          refine ms_iconst (n := 0) (v := 0) (p' := 49) (by decide +kernel) rfl ?_
          refine ms_iload_n (k := 1) (p' := 50) (by decide +kernel) rfl rfl ?_
          refine ms_iconst (n := 1) (v := 1) (p' := 51) (by decide +kernel) rfl ?_
          refine ms_iadd (p' := 52) (by decide +kernel) rfl ?_
          refine ms_iconst (n := 0) (v := 0) (p' := 53) (by decide +kernel) rfl ?_
          refine ms_iload_n (k := 2) (p' := 54) (by decide +kernel) rfl rfl ?_
          refine ms_virt_i (idx := 445) (cy := yM_spanOf) (n := 4) (a := 223) (as := [.inl 0, .inl (mj_w (x1 + 1)), .inl 0, .inl x2]) (rest := []) (p' := 57) (by decide +kernel) rfl rfl rfl rfl (k_223 hw) rfl (fun f6 v7 => ?_)
          exact ms_iret (by decide +kernel)
        · refine ms_bipush (n := (-3)) (v := (-3)) (p' := 44) (by decide +kernel) rfl ?_
          refine ms_goto (off := 13) (p' := 57) (by decide +kernel) ?_
          exact ms_iret (by decide +kernel)
      · refine ms_bipush (n := (-2)) (v := (-2)) (p' := 30) (by decide +kernel) rfl ?_
        exact ms_iret (by decide +kernel)
    · refine ms_iconst (n := (-1)) (v := (-1)) (p' := 19) (by decide +kernel) rfl ?_
      exact ms_iret (by decide +kernel)
theorem c_M_between {sw : Bool} {w : mj_W} (hw : wk sw w) (f : mj_F) (x1 : Int) (x2 : Int) (x3 : Int)  : mj_call yM_between w f [.inr (.inl 223), .inl x1, .inl x2, .inl x3] = if x1 < 0 then some (w, (mj_u f 223 0 0), some (.inl (-1))) else if x2 ≤ x1 then some (w, (mj_u f 223 0 0), some (.inl (-1))) else mj_bi (mj_call yM_isIn w (mj_u f 223 0 0) [.inl x3, .inl 0, .inl 3]) (fun f1 v2 => if ¬ v2 = 0 then mj_bi (mj_call yM_traced w f1 [.inr (.inl 223)]) (fun f3 v4 => if x2 < v4 then mj_bu (mj_call yM_laysTrace w f3 [.inr (.inl 223)]) (fun f5 => if (f5 223 53) = 0 then mj_bi (mj_call yM_spanOf w f5 [.inr (.inl 223), .inl (mj_w (x1 + 1)), .inl (mj_w (x2 + 1)), .inl 0, .inl x3]) (fun f6 v7 => some (w, f6, some (.inl v7))) else some (w, f5, some (.inl (-3)))) else some (w, f3, some (.inl (-2)))) else some (w, f1, some (.inl (-1)))) := by
  show mj_run yM_between w f 0 [.inr (.inl 223), .inl x1, .inl x2, .inl x3] [] = _
  refine ms_aload_n (k := 0) (p' := 1) (by decide +kernel) rfl rfl ?_
  refine ms_iconst (n := 0) (v := 0) (p' := 2) (by decide +kernel) rfl ?_
  refine ms_puti (idx := 1) (ci := 9) (k := 0) (q := 1391) (p' := 5) (by decide +kernel) rfl (k_223 hw) ?_
  refine ms_iload_n (k := 1) (p' := 6) (by decide +kernel) rfl rfl ?_
  refine ms_if_lt (off := 17) (t := 23) (p' := 9) (by decide +kernel) rfl (fun hc => ?_) (fun hc => ?_)
  · refine ms_iconst (n := (-1)) (v := (-1)) (p' := 24) (by decide +kernel) rfl ?_
    exact ms_iret (by decide +kernel)
  · refine ms_iload_n (k := 1) (p' := 10) (by decide +kernel) rfl rfl ?_
    refine ms_iload_n (k := 2) (p' := 11) (by decide +kernel) rfl rfl ?_
    refine ms_icmp_ge (off := 12) (t := 23) (p' := 14) (by decide +kernel) rfl (fun hc => ?_) (fun hc => ?_)
    · refine ms_iconst (n := (-1)) (v := (-1)) (p' := 24) (by decide +kernel) rfl ?_
      exact ms_iret (by decide +kernel)
    · refine ms_iload_n (k := 3) (p' := 15) (by decide +kernel) rfl rfl ?_
      refine ms_iconst (n := 0) (v := 0) (p' := 16) (by decide +kernel) rfl ?_
      refine ms_iconst (n := 3) (v := 3) (p' := 17) (by decide +kernel) rfl ?_
      refine ms_stat_i (idx := 158) (cy := yM_isIn) (n := 3) (as := [.inl x3, .inl 0, .inl 3]) (rest := []) (p' := 20) (by decide +kernel) rfl rfl rfl rfl rfl (fun f1 v2 => ?_)
      refine ms_if_ne (off := 5) (t := 25) (p' := 23) (by decide +kernel) rfl (fun hc => ?_) (fun hc => ?_)
      · refine ms_iload_n (k := 2) (p' := 26) (by decide +kernel) rfl rfl ?_
        refine ms_aload_n (k := 0) (p' := 27) (by decide +kernel) rfl rfl ?_
        refine ms_virt_i (idx := 435) (cy := yM_traced) (n := 0) (a := 223) (as := []) (rest := [.inl x2]) (p' := 30) (by decide +kernel) rfl rfl rfl rfl (k_223 hw) rfl (fun f3 v4 => ?_)
        refine ms_icmp_lt (off := 6) (t := 36) (p' := 33) (by decide +kernel) rfl (fun hc => ?_) (fun hc => ?_)
        · refine ms_aload_n (k := 0) (p' := 37) (by decide +kernel) rfl rfl ?_
          refine ms_virt_u (idx := 442) (cy := yM_laysTrace) (n := 0) (a := 223) (as := []) (rest := []) (p' := 40) (by decide +kernel) rfl rfl rfl rfl (k_223 hw) rfl (fun f5 => ?_)
          refine ms_aload_n (k := 0) (p' := 41) (by decide +kernel) rfl rfl ?_
          refine ms_geti (idx := 289) (ci := 9) (k := 53) (q := 1444) (p' := 44) (by decide +kernel) rfl (k_223 hw) ?_
          refine ms_if_eq (off := 8) (t := 52) (p' := 47) (by decide +kernel) rfl (fun hc => ?_) (fun hc => ?_)
          · refine ms_aload_n (k := 0) (p' := 53) (by decide +kernel) rfl rfl ?_
            refine ms_iload_n (k := 1) (p' := 54) (by decide +kernel) rfl rfl ?_
            refine ms_iconst (n := 1) (v := 1) (p' := 55) (by decide +kernel) rfl ?_
            refine ms_iadd (p' := 56) (by decide +kernel) rfl ?_
            refine ms_iload_n (k := 2) (p' := 57) (by decide +kernel) rfl rfl ?_
            refine ms_iconst (n := 1) (v := 1) (p' := 58) (by decide +kernel) rfl ?_
            refine ms_iadd (p' := 59) (by decide +kernel) rfl ?_
            refine ms_iconst (n := 0) (v := 0) (p' := 60) (by decide +kernel) rfl ?_
            refine ms_iload_n (k := 3) (p' := 61) (by decide +kernel) rfl rfl ?_
            refine ms_virt_i (idx := 445) (cy := yM_spanOf) (n := 4) (a := 223) (as := [.inl (mj_w (x1 + 1)), .inl (mj_w (x2 + 1)), .inl 0, .inl x3]) (rest := []) (p' := 64) (by decide +kernel) rfl rfl rfl rfl (k_223 hw) rfl (fun f6 v7 => ?_)
            exact ms_iret (by decide +kernel)
          · refine ms_bipush (n := (-3)) (v := (-3)) (p' := 49) (by decide +kernel) rfl ?_
            refine ms_goto (off := 15) (p' := 64) (by decide +kernel) ?_
            exact ms_iret (by decide +kernel)
        · refine ms_bipush (n := (-2)) (v := (-2)) (p' := 35) (by decide +kernel) rfl ?_
          exact ms_iret (by decide +kernel)
      · refine ms_iconst (n := (-1)) (v := (-1)) (p' := 24) (by decide +kernel) rfl ?_
        exact ms_iret (by decide +kernel)
theorem c_M_value {sw : Bool} {w : mj_W} (hw : wk sw w) (f : mj_F) (x1 : Int) (x2 : Int) (x3 : Int)  : mj_call yM_value w f [.inr (.inl 223), .inl x1, .inl x2, .inl x3] = if x1 < 0 then some (w, (mj_u f 223 0 0), some (.inl (-1))) else mj_bi (mj_call yM_isClock w (mj_u f 223 0 0) [.inr (.inl 223), .inl x2]) (fun f1 v2 => if v2 = 0 then some (w, f1, some (.inl (-1))) else mj_bi (mj_call yM_isIn w f1 [.inl x3, .inl 0, .inl 3]) (fun f3 v4 => if ¬ v4 = 0 then mj_bi (mj_call yM_traced w f3 [.inr (.inl 223)]) (fun f5 v6 => if x1 < v6 then mj_bu (mj_call yM_laysTrace w f5 [.inr (.inl 223)]) (fun f7 => if (f7 223 53) = 0 then mj_gd (0 ≤ (mj_w ((mj_w (4 * x1)) + x2)) ∧ (mj_w ((mj_w (4 * x1)) + x2)) < ((240 : Nat) : Int)) (mj_gd (0 ≤ (mj_w ((mj_w (4 * x1)) + x2)) ∧ (mj_w ((mj_w (4 * x1)) + x2)) < ((240 : Nat) : Int)) (mj_bi (mj_call yM_spanOf w f7 [.inr (.inl 223), .inl (f7 257 (mj_w ((mj_w (4 * x1)) + x2)).toNat), .inl (mj_w (x1 + 1)), .inl (f7 258 (mj_w ((mj_w (4 * x1)) + x2)).toNat), .inl x3]) (fun f10 v11 => some (w, f10, some (.inl v11))))) else some (w, f7, some (.inl (-3)))) else some (w, f5, some (.inl (-2)))) else some (w, f3, some (.inl (-1))))) := by
  show mj_run yM_value w f 0 [.inr (.inl 223), .inl x1, .inl x2, .inl x3] [] = _
  refine ms_aload_n (k := 0) (p' := 1) (by decide +kernel) rfl rfl ?_
  refine ms_iconst (n := 0) (v := 0) (p' := 2) (by decide +kernel) rfl ?_
  refine ms_puti (idx := 1) (ci := 9) (k := 0) (q := 1391) (p' := 5) (by decide +kernel) rfl (k_223 hw) ?_
  refine ms_iload_n (k := 1) (p' := 6) (by decide +kernel) rfl rfl ?_
  refine ms_if_lt (off := 20) (t := 26) (p' := 9) (by decide +kernel) rfl (fun hc => ?_) (fun hc => ?_)
  · refine ms_iconst (n := (-1)) (v := (-1)) (p' := 27) (by decide +kernel) rfl ?_
    exact ms_iret (by decide +kernel)
  · refine ms_aload_n (k := 0) (p' := 10) (by decide +kernel) rfl rfl ?_
    refine ms_iload_n (k := 2) (p' := 11) (by decide +kernel) rfl rfl ?_
    refine ms_virt_i (idx := 349) (cy := yM_isClock) (n := 1) (a := 223) (as := [.inl x2]) (rest := []) (p' := 14) (by decide +kernel) rfl rfl rfl rfl (k_223 hw) rfl (fun f1 v2 => ?_)
    refine ms_if_eq (off := 12) (t := 26) (p' := 17) (by decide +kernel) rfl (fun hc => ?_) (fun hc => ?_)
    · refine ms_iconst (n := (-1)) (v := (-1)) (p' := 27) (by decide +kernel) rfl ?_
      exact ms_iret (by decide +kernel)
    · refine ms_iload_n (k := 3) (p' := 18) (by decide +kernel) rfl rfl ?_
      refine ms_iconst (n := 0) (v := 0) (p' := 19) (by decide +kernel) rfl ?_
      refine ms_iconst (n := 3) (v := 3) (p' := 20) (by decide +kernel) rfl ?_
      refine ms_stat_i (idx := 158) (cy := yM_isIn) (n := 3) (as := [.inl x3, .inl 0, .inl 3]) (rest := []) (p' := 23) (by decide +kernel) rfl rfl rfl rfl rfl (fun f3 v4 => ?_)
      refine ms_if_ne (off := 5) (t := 28) (p' := 26) (by decide +kernel) rfl (fun hc => ?_) (fun hc => ?_)
      · refine ms_iload_n (k := 1) (p' := 29) (by decide +kernel) rfl rfl ?_
        refine ms_aload_n (k := 0) (p' := 30) (by decide +kernel) rfl rfl ?_
        refine ms_virt_i (idx := 435) (cy := yM_traced) (n := 0) (a := 223) (as := []) (rest := [.inl x1]) (p' := 33) (by decide +kernel) rfl rfl rfl rfl (k_223 hw) rfl (fun f5 v6 => ?_)
        refine ms_icmp_lt (off := 6) (t := 39) (p' := 36) (by decide +kernel) rfl (fun hc => ?_) (fun hc => ?_)
        · refine ms_aload_n (k := 0) (p' := 40) (by decide +kernel) rfl rfl ?_
          refine ms_virt_u (idx := 442) (cy := yM_laysTrace) (n := 0) (a := 223) (as := []) (rest := []) (p' := 43) (by decide +kernel) rfl rfl rfl rfl (k_223 hw) rfl (fun f7 => ?_)
          refine ms_aload_n (k := 0) (p' := 44) (by decide +kernel) rfl rfl ?_
          refine ms_geti (idx := 289) (ci := 9) (k := 53) (q := 1444) (p' := 47) (by decide +kernel) rfl (k_223 hw) ?_
          refine ms_if_eq (off := 8) (t := 55) (p' := 50) (by decide +kernel) rfl (fun hc => ?_) (fun hc => ?_)
          · refine ms_aload_n (k := 0) (p' := 56) (by decide +kernel) rfl rfl ?_
            refine ms_aload_n (k := 0) (p' := 57) (by decide +kernel) rfl rfl ?_
            refine ms_getr (idx := 117) (ci := 9) (k := 59) (q := 1450) (p' := 60) (by decide +kernel) rfl (k_223 hw) (r_223_59 hw) (by decide) ?_
            refine ms_iconst (n := 4) (v := 4) (p' := 61) (by decide +kernel) rfl ?_
            refine ms_iload_n (k := 1) (p' := 62) (by decide +kernel) rfl rfl ?_
            refine ms_imul (p' := 63) (by decide +kernel) rfl ?_
            refine ms_iload_n (k := 2) (p' := 64) (by decide +kernel) rfl rfl ?_
            refine ms_iadd (p' := 65) (by decide +kernel) rfl ?_
            refine ms_iald (p' := 66) (by decide +kernel) rfl (k_257 hw) (fun hj8 => ?_)
            refine ms_iload_n (k := 1) (p' := 67) (by decide +kernel) rfl rfl ?_
            refine ms_iconst (n := 1) (v := 1) (p' := 68) (by decide +kernel) rfl ?_
            refine ms_iadd (p' := 69) (by decide +kernel) rfl ?_
            refine ms_aload_n (k := 0) (p' := 70) (by decide +kernel) rfl rfl ?_
            refine ms_getr (idx := 120) (ci := 9) (k := 60) (q := 1451) (p' := 73) (by decide +kernel) rfl (k_223 hw) (r_223_60 hw) (by decide) ?_
            refine ms_iconst (n := 4) (v := 4) (p' := 74) (by decide +kernel) rfl ?_
            refine ms_iload_n (k := 1) (p' := 75) (by decide +kernel) rfl rfl ?_
            refine ms_imul (p' := 76) (by decide +kernel) rfl ?_
            refine ms_iload_n (k := 2) (p' := 77) (by decide +kernel) rfl rfl ?_
            refine ms_iadd (p' := 78) (by decide +kernel) rfl ?_
            refine ms_iald (p' := 79) (by decide +kernel) rfl (k_258 hw) (fun hj9 => ?_)
            refine ms_iload_n (k := 3) (p' := 80) (by decide +kernel) rfl rfl ?_
            refine ms_virt_i (idx := 445) (cy := yM_spanOf) (n := 4) (a := 223) (as := [.inl (f7 257 (mj_w ((mj_w (4 * x1)) + x2)).toNat), .inl (mj_w (x1 + 1)), .inl (f7 258 (mj_w ((mj_w (4 * x1)) + x2)).toNat), .inl x3]) (rest := []) (p' := 83) (by decide +kernel) rfl rfl rfl rfl (k_223 hw) rfl (fun f10 v11 => ?_)
            exact ms_iret (by decide +kernel)
          · refine ms_bipush (n := (-3)) (v := (-3)) (p' := 52) (by decide +kernel) rfl ?_
            refine ms_goto (off := 31) (p' := 83) (by decide +kernel) ?_
            exact ms_iret (by decide +kernel)
        · refine ms_bipush (n := (-2)) (v := (-2)) (p' := 38) (by decide +kernel) rfl ?_
          exact ms_iret (by decide +kernel)
      · refine ms_iconst (n := (-1)) (v := (-1)) (p' := 27) (by decide +kernel) rfl ?_
        exact ms_iret (by decide +kernel)
theorem c_M_breaks {sw : Bool} {w : mj_W} (hw : wk sw w) (f : mj_F)   : mj_call yM_breaks w f [.inr (.inl 223)] = if ¬ (mj_u f 223 0 0 223 3) = 0 then mj_bu (mj_call yM_laysTimes w (mj_u f 223 0 0) [.inr (.inl 223), .inr (.inl 234), .inl 105, .inl 0]) (fun f1 => mj_bi (mj_call yM_traced w f1 [.inr (.inl 223)]) (fun f2 v3 => if ¬ v3 = 0 then mj_run yM_breaks w f2 49 [.inr (.inl 223), .inl 1] [] else if (f2 223 53) = 0 then some (w, f2, some (.inl (-2))) else some (w, f2, some (.inl (-3))))) else some (w, (mj_u f 223 0 0), some (.inl (-1))) := by
  show mj_run yM_breaks w f 0 [.inr (.inl 223), .inr (.inr (.inr 0))] [] = _
  refine ms_aload_n (k := 0) (p' := 1) (by decide +kernel) rfl rfl ?_
  refine ms_iconst (n := 0) (v := 0) (p' := 2) (by decide +kernel) rfl ?_
  refine ms_puti (idx := 1) (ci := 9) (k := 0) (q := 1391) (p' := 5) (by decide +kernel) rfl (k_223 hw) ?_
  refine ms_aload_n (k := 0) (p' := 6) (by decide +kernel) rfl rfl ?_
  refine ms_geti (idx := 245) (ci := 9) (k := 3) (q := 1394) (p' := 9) (by decide +kernel) rfl (k_223 hw) ?_
  refine ms_if_ne (off := 5) (t := 14) (p' := 12) (by decide +kernel) rfl (fun hc => ?_) (fun hc => ?_)
  · refine ms_aload_n (k := 0) (p' := 15) (by decide +kernel) rfl rfl ?_
    refine ms_aload_n (k := 0) (p' := 16) (by decide +kernel) rfl rfl ?_
    refine ms_getr (idx := 44) (ci := 9) (k := 16) (q := 1407) (p' := 19) (by decide +kernel) rfl (k_223 hw) (r_223_16 hw) (by decide) ?_
    refine ms_bipush (n := 105) (v := 105) (p' := 21) (by decide +kernel) rfl ?_
    refine ms_iconst (n := 0) (v := 0) (p' := 22) (by decide +kernel) rfl ?_
    refine ms_virt_u (idx := 438) (cy := yM_laysTimes) (n := 3) (a := 223) (as := [.inr (.inl 234), .inl 105, .inl 0]) (rest := []) (p' := 25) (by decide +kernel) rfl rfl rfl rfl (k_223 hw) rfl (fun f1 => ?_)
    refine ms_aload_n (k := 0) (p' := 26) (by decide +kernel) rfl rfl ?_
    refine ms_virt_i (idx := 435) (cy := yM_traced) (n := 0) (a := 223) (as := []) (rest := []) (p' := 29) (by decide +kernel) rfl rfl rfl rfl (k_223 hw) rfl (fun f2 v3 => ?_)
    refine ms_if_ne (off := 18) (t := 47) (p' := 32) (by decide +kernel) rfl (fun hc => ?_) (fun hc => ?_)
    · refine ms_iconst (n := 1) (v := 1) (p' := 48) (by decide +kernel) rfl ?_
      refine ms_istore_n (k := 1) (ls' := [.inr (.inl 223), .inl 1]) (p' := 49) (by decide +kernel) rfl (Nat.le_of_ble_eq_true rfl) rfl ?_
      rfl
    · refine ms_aload_n (k := 0) (p' := 33) (by decide +kernel) rfl rfl ?_
      refine ms_geti (idx := 289) (ci := 9) (k := 53) (q := 1444) (p' := 36) (by decide +kernel) rfl (k_223 hw) ?_
      refine ms_if_eq (off := 8) (t := 44) (p' := 39) (by decide +kernel) rfl (fun hc => ?_) (fun hc => ?_)
      · refine ms_bipush (n := (-2)) (v := (-2)) (p' := 46) (by decide +kernel) rfl ?_
        exact ms_iret (by decide +kernel)
      · refine ms_bipush (n := (-3)) (v := (-3)) (p' := 41) (by decide +kernel) rfl ?_
        refine ms_goto (off := 5) (p' := 46) (by decide +kernel) ?_
        exact ms_iret (by decide +kernel)
  · refine ms_iconst (n := (-1)) (v := (-1)) (p' := 13) (by decide +kernel) rfl ?_
    exact ms_iret (by decide +kernel)
theorem l_M_breaks_49 {sw : Bool} {w : mj_W} (hw : wk sw w) (f : mj_F) (x1 : Int)  : mj_run yM_breaks w f 49 [.inr (.inl 223), .inl x1] [] = mj_bi (mj_call yM_traced w f [.inr (.inl 223)]) (fun f4 v5 => if v5 < x1 then some (w, f4, some (.inl (-2))) else mj_bu (mj_call yM_laysTimes w f4 [.inr (.inl 223), .inr (.inl 234), .inl 105, .inl x1]) (fun f6 => if (f6 223 53) = 0 then mj_run yM_breaks w f6 49 [.inr (.inl 223), .inl (mj_w (x1 + 1))] [] else some (w, f6, some (.inl (mj_w (x1 - 1)))))) := by
  refine ms_iload_n (k := 1) (p' := 50) (by decide +kernel) rfl rfl ?_
  refine ms_aload_n (k := 0) (p' := 51) (by decide +kernel) rfl rfl ?_
  refine ms_virt_i (idx := 435) (cy := yM_traced) (n := 0) (a := 223) (as := []) (rest := [.inl x1]) (p' := 54) (by decide +kernel) rfl rfl rfl rfl (k_223 hw) rfl (fun f4 v5 => ?_)
  refine ms_icmp_gt (off := 31) (t := 85) (p' := 57) (by decide +kernel) rfl (fun hc => ?_) (fun hc => ?_)
  · refine ms_bipush (n := (-2)) (v := (-2)) (p' := 87) (by decide +kernel) rfl ?_
    exact ms_iret (by decide +kernel)
  · refine ms_aload_n (k := 0) (p' := 58) (by decide +kernel) rfl rfl ?_
    refine ms_aload_n (k := 0) (p' := 59) (by decide +kernel) rfl rfl ?_
    refine ms_getr (idx := 44) (ci := 9) (k := 16) (q := 1407) (p' := 62) (by decide +kernel) rfl (k_223 hw) (r_223_16 hw) (by decide) ?_
    refine ms_bipush (n := 105) (v := 105) (p' := 64) (by decide +kernel) rfl ?_
    refine ms_iload_n (k := 1) (p' := 65) (by decide +kernel) rfl rfl ?_
    refine ms_virt_u (idx := 438) (cy := yM_laysTimes) (n := 3) (a := 223) (as := [.inr (.inl 234), .inl 105, .inl x1]) (rest := []) (p' := 68) (by decide +kernel) rfl rfl rfl rfl (k_223 hw) rfl (fun f6 => ?_)
    refine ms_aload_n (k := 0) (p' := 69) (by decide +kernel) rfl rfl ?_
    refine ms_geti (idx := 289) (ci := 9) (k := 53) (q := 1444) (p' := 72) (by decide +kernel) rfl (k_223 hw) ?_
    refine ms_if_eq (off := 7) (t := 79) (p' := 75) (by decide +kernel) rfl (fun hc => ?_) (fun hc => ?_)
    · refine ms_iinc (k := 1) (n := 1) (ls' := [.inr (.inl 223), .inl (mj_w (x1 + 1))]) (p' := 82) (by decide +kernel) rfl rfl rfl ?_
      refine ms_goto (off := (-33)) (p' := 49) (by decide +kernel) ?_
      rfl
    · refine ms_iload_n (k := 1) (p' := 76) (by decide +kernel) rfl rfl ?_
      refine ms_iconst (n := 1) (v := 1) (p' := 77) (by decide +kernel) rfl ?_
      refine ms_isub (p' := 78) (by decide +kernel) rfl ?_
      exact ms_iret (by decide +kernel)
theorem c_M_width {sw : Bool} {w : mj_W} (hw : wk sw w) (f : mj_F) (x1 : Int) (x2 : Int) (x3 : Int) (x4 : Int)  : mj_call yM_width w f [.inr (.inl 223), .inl x1, .inl x2, .inl x3, .inl x4] = mj_bi (mj_call yM_isTable w (mj_u f 223 0 0) [.inl x1]) (fun f1 v2 => if v2 = 0 then some (w, f1, some (.inl (-2000))) else mj_bi (mj_call yM_arePair w f1 [.inr (.inl 223), .inl x2, .inl x3]) (fun f3 v4 => if v4 = 0 then some (w, f3, some (.inl (-2000))) else mj_bi (mj_call yM_isTwo w f3 [.inl x4]) (fun f5 v6 => if ¬ v6 = 0 then mj_bu (mj_call yM_loads w f5 [.inr (.inl 223), .inl x1]) (fun f7 => if (f7 223 53) = 0 then mj_bi (mj_call yM_get w f7 [.inr (.inl 223), .inl (mj_w (x2 + 1)), .inl (mj_w (x3 + 1))]) (fun f8 v9 => mj_bi (mj_call yM_get w f8 [.inr (.inl 223), .inl (mj_w (x3 + 1)), .inl (mj_w (x2 + 1))]) (fun f10 v11 => mj_bi (mj_call yM_plus w f10 [.inl v9, .inl v11]) (fun f12 v13 => mj_bi (mj_call yM_told w f12 [.inr (.inl 223), .inl v13, .inl x4]) (fun f14 v15 => some (w, f14, some (.inl v15)))))) else some (w, f7, some (.inl (-1000)))) else some (w, f5, some (.inl (-2000)))))) := by
  show mj_run yM_width w f 0 [.inr (.inl 223), .inl x1, .inl x2, .inl x3, .inl x4] [] = _
  refine ms_aload_n (k := 0) (p' := 1) (by decide +kernel) rfl rfl ?_
  refine ms_iconst (n := 0) (v := 0) (p' := 2) (by decide +kernel) rfl ?_
  refine ms_puti (idx := 1) (ci := 9) (k := 0) (q := 1391) (p' := 5) (by decide +kernel) rfl (k_223 hw) ?_
  refine ms_iload_n (k := 1) (p' := 6) (by decide +kernel) rfl rfl ?_
  refine ms_stat_i (idx := 327) (cy := yM_isTable) (n := 1) (as := [.inl x1]) (rest := []) (p' := 9) (by decide +kernel) rfl rfl rfl rfl rfl (fun f1 v2 => ?_)
  refine ms_if_eq (off := 20) (t := 29) (p' := 12) (by decide +kernel) rfl (fun hc => ?_) (fun hc => ?_)
  · refine ms_sipush (n := (-2000)) (v := (-2000)) (p' := 32) (by decide +kernel) rfl ?_
    exact ms_iret (by decide +kernel)
  · refine ms_aload_n (k := 0) (p' := 13) (by decide +kernel) rfl rfl ?_
    refine ms_iload_n (k := 2) (p' := 14) (by decide +kernel) rfl rfl ?_
    refine ms_iload_n (k := 3) (p' := 15) (by decide +kernel) rfl rfl ?_
    refine ms_virt_i (idx := 336) (cy := yM_arePair) (n := 2) (a := 223) (as := [.inl x2, .inl x3]) (rest := []) (p' := 18) (by decide +kernel) rfl rfl rfl rfl (k_223 hw) rfl (fun f3 v4 => ?_)
    refine ms_if_eq (off := 11) (t := 29) (p' := 21) (by decide +kernel) rfl (fun hc => ?_) (fun hc => ?_)
    · refine ms_sipush (n := (-2000)) (v := (-2000)) (p' := 32) (by decide +kernel) rfl ?_
      exact ms_iret (by decide +kernel)
    · refine ms_iload (k := 4) (p' := 23) (by decide +kernel) rfl rfl ?_
      refine ms_stat_i (idx := 343) (cy := yM_isTwo) (n := 1) (as := [.inl x4]) (rest := []) (p' := 26) (by decide +kernel) rfl rfl rfl rfl rfl (fun f5 v6 => ?_)
      refine ms_if_ne (off := 7) (t := 33) (p' := 29) (by decide +kernel) rfl (fun hc => ?_) (fun hc => ?_)
      · refine ms_aload_n (k := 0) (p' := 34) (by decide +kernel) rfl rfl ?_
        refine ms_iload_n (k := 1) (p' := 35) (by decide +kernel) rfl rfl ?_
        refine ms_virt_u (idx := 340) (cy := yM_loads) (n := 1) (a := 223) (as := [.inl x1]) (rest := []) (p' := 38) (by decide +kernel) rfl rfl rfl rfl (k_223 hw) rfl (fun f7 => ?_)
        refine ms_aload_n (k := 0) (p' := 39) (by decide +kernel) rfl rfl ?_
        refine ms_geti (idx := 289) (ci := 9) (k := 53) (q := 1444) (p' := 42) (by decide +kernel) rfl (k_223 hw) ?_
        refine ms_if_eq (off := 9) (t := 51) (p' := 45) (by decide +kernel) rfl (fun hc => ?_) (fun hc => ?_)
        · refine ms_aload_n (k := 0) (p' := 52) (by decide +kernel) rfl rfl ?_
          refine ms_aload_n (k := 0) (p' := 53) (by decide +kernel) rfl rfl ?_
          refine ms_iload_n (k := 2) (p' := 54) (by decide +kernel) rfl rfl ?_
          refine ms_iconst (n := 1) (v := 1) (p' := 55) (by decide +kernel) rfl ?_
          refine ms_iadd (p' := 56) (by decide +kernel) rfl ?_
          refine ms_iload_n (k := 3) (p' := 57) (by decide +kernel) rfl rfl ?_
          refine ms_iconst (n := 1) (v := 1) (p' := 58) (by decide +kernel) rfl ?_
          refine ms_iadd (p' := 59) (by decide +kernel) rfl ?_
          refine ms_virt_i (idx := 272) (cy := yM_get) (n := 2) (a := 223) (as := [.inl (mj_w (x2 + 1)), .inl (mj_w (x3 + 1))]) (rest := [.inr (.inl 223)]) (p' := 62) (by decide +kernel) rfl rfl rfl rfl (k_223 hw) rfl (fun f8 v9 => ?_)
          refine ms_aload_n (k := 0) (p' := 63) (by decide +kernel) rfl rfl ?_
          refine ms_iload_n (k := 3) (p' := 64) (by decide +kernel) rfl rfl ?_
          refine ms_iconst (n := 1) (v := 1) (p' := 65) (by decide +kernel) rfl ?_
          refine ms_iadd (p' := 66) (by decide +kernel) rfl ?_
          refine ms_iload_n (k := 2) (p' := 67) (by decide +kernel) rfl rfl ?_
          refine ms_iconst (n := 1) (v := 1) (p' := 68) (by decide +kernel) rfl ?_
          refine ms_iadd (p' := 69) (by decide +kernel) rfl ?_
          refine ms_virt_i (idx := 272) (cy := yM_get) (n := 2) (a := 223) (as := [.inl (mj_w (x3 + 1)), .inl (mj_w (x2 + 1))]) (rest := [.inl v9, .inr (.inl 223)]) (p' := 72) (by decide +kernel) rfl rfl rfl rfl (k_223 hw) rfl (fun f10 v11 => ?_)
          refine ms_stat_i (idx := 283) (cy := yM_plus) (n := 2) (as := [.inl v9, .inl v11]) (rest := [.inr (.inl 223)]) (p' := 75) (by decide +kernel) rfl rfl rfl rfl rfl (fun f12 v13 => ?_)
          refine ms_iload (k := 4) (p' := 77) (by decide +kernel) rfl rfl ?_
          refine ms_virt_i (idx := 380) (cy := yM_told) (n := 2) (a := 223) (as := [.inl v13, .inl x4]) (rest := []) (p' := 80) (by decide +kernel) rfl rfl rfl rfl (k_223 hw) rfl (fun f14 v15 => ?_)
          exact ms_iret (by decide +kernel)
        · refine ms_sipush (n := (-1000)) (v := (-1000)) (p' := 48) (by decide +kernel) rfl ?_
          refine ms_goto (off := 32) (p' := 80) (by decide +kernel) ?_
          exact ms_iret (by decide +kernel)
      · refine ms_sipush (n := (-2000)) (v := (-2000)) (p' := 32) (by decide +kernel) rfl ?_
        exact ms_iret (by decide +kernel)
theorem c_M_touch {sw : Bool} {w : mj_W} (hw : wk sw w) (f : mj_F) (x1 : Int) (x2 : Int)  : mj_call yM_touch w f [.inr (.inl 223), .inl x1, .inl x2] = mj_bi (mj_call yM_isTable w (mj_u f 223 0 0) [.inl x1]) (fun f1 v2 => if v2 = 0 then some (w, f1, some (.inl (-1))) else mj_bi (mj_call yM_isTable w f1 [.inl x2]) (fun f3 v4 => if ¬ v4 = 0 then mj_bu (mj_call yM_meetsTable w f3 [.inr (.inl 223), .inl x1, .inl x2]) (fun f5 => if (f5 223 53) = 0 then some (w, f5, some (.inl 1)) else some (w, f5, some (.inl 0))) else some (w, f3, some (.inl (-1))))) := by
  show mj_run yM_touch w f 0 [.inr (.inl 223), .inl x1, .inl x2] [] = _
  refine ms_aload_n (k := 0) (p' := 1) (by decide +kernel) rfl rfl ?_
  refine ms_iconst (n := 0) (v := 0) (p' := 2) (by decide +kernel) rfl ?_
  refine ms_puti (idx := 1) (ci := 9) (k := 0) (q := 1391) (p' := 5) (by decide +kernel) rfl (k_223 hw) ?_
  refine ms_iload_n (k := 1) (p' := 6) (by decide +kernel) rfl rfl ?_
  refine ms_stat_i (idx := 327) (cy := yM_isTable) (n := 1) (as := [.inl x1]) (rest := []) (p' := 9) (by decide +kernel) rfl rfl rfl rfl rfl (fun f1 v2 => ?_)
  refine ms_if_eq (off := 10) (t := 19) (p' := 12) (by decide +kernel) rfl (fun hc => ?_) (fun hc => ?_)
  · refine ms_iconst (n := (-1)) (v := (-1)) (p' := 20) (by decide +kernel) rfl ?_
    exact ms_iret (by decide +kernel)
  · refine ms_iload_n (k := 2) (p' := 13) (by decide +kernel) rfl rfl ?_
    refine ms_stat_i (idx := 327) (cy := yM_isTable) (n := 1) (as := [.inl x2]) (rest := []) (p' := 16) (by decide +kernel) rfl rfl rfl rfl rfl (fun f3 v4 => ?_)
    refine ms_if_ne (off := 5) (t := 21) (p' := 19) (by decide +kernel) rfl (fun hc => ?_) (fun hc => ?_)
    · refine ms_aload_n (k := 0) (p' := 22) (by decide +kernel) rfl rfl ?_
      refine ms_iload_n (k := 1) (p' := 23) (by decide +kernel) rfl rfl ?_
      refine ms_iload_n (k := 2) (p' := 24) (by decide +kernel) rfl rfl ?_
      refine ms_virt_u (idx := 356) (cy := yM_meetsTable) (n := 2) (a := 223) (as := [.inl x1, .inl x2]) (rest := []) (p' := 27) (by decide +kernel) rfl rfl rfl rfl (k_223 hw) rfl (fun f5 => ?_)
      refine ms_aload_n (k := 0) (p' := 28) (by decide +kernel) rfl rfl ?_
      refine ms_geti (idx := 289) (ci := 9) (k := 53) (q := 1444) (p' := 31) (by decide +kernel) rfl (k_223 hw) ?_
      refine ms_if_eq (off := 7) (t := 38) (p' := 34) (by decide +kernel) rfl (fun hc => ?_) (fun hc => ?_)
      · refine ms_iconst (n := 1) (v := 1) (p' := 39) (by decide +kernel) rfl ?_
        exact ms_iret (by decide +kernel)
      · refine ms_iconst (n := 0) (v := 0) (p' := 35) (by decide +kernel) rfl ?_
        refine ms_goto (off := 4) (p' := 39) (by decide +kernel) ?_
        exact ms_iret (by decide +kernel)
    · refine ms_iconst (n := (-1)) (v := (-1)) (p' := 20) (by decide +kernel) rfl ?_
      exact ms_iret (by decide +kernel)
theorem c_M_backs {sw : Bool} {w : mj_W} (hw : wk sw w) (f : mj_F) (x1 : Int)  : mj_call yM_backs w f [.inr (.inl 223), .inl x1] = mj_gd (0 ≤ x1 ∧ x1 < ((16 : Nat) : Int)) (mj_bu (mj_call yM_whens w f [.inr (.inl 223), .inl (f 229 x1.toNat)]) (fun f2 => mj_run yM_backs w f2 14 [.inr (.inl 223), .inl x1, .inl (mj_w (4 * x1))] [])) := by
  show mj_run yM_backs w f 0 [.inr (.inl 223), .inl x1, .inr (.inr (.inr 0))] [] = _
  refine ms_aload_n (k := 0) (p' := 1) (by decide +kernel) rfl rfl ?_
  refine ms_aload_n (k := 0) (p' := 2) (by decide +kernel) rfl rfl ?_
  refine ms_getr (idx := 29) (ci := 9) (k := 11) (q := 1402) (p' := 5) (by decide +kernel) rfl (k_223 hw) (r_223_11 hw) (by decide) ?_
  refine ms_iload_n (k := 1) (p' := 6) (by decide +kernel) rfl rfl ?_
  refine ms_iald (p' := 7) (by decide +kernel) rfl (k_229 hw) (fun hj1 => ?_)
  refine ms_virt_u (idx := 303) (cy := yM_whens) (n := 1) (a := 223) (as := [.inl (f 229 x1.toNat)]) (rest := []) (p' := 10) (by decide +kernel) rfl rfl rfl rfl (k_223 hw) rfl (fun f2 => ?_)
  refine ms_iconst (n := 4) (v := 4) (p' := 11) (by decide +kernel) rfl ?_
  refine ms_iload_n (k := 1) (p' := 12) (by decide +kernel) rfl rfl ?_
  refine ms_imul (p' := 13) (by decide +kernel) rfl ?_
  refine ms_istore_n (k := 2) (ls' := [.inr (.inl 223), .inl x1, .inl (mj_w (4 * x1))]) (p' := 14) (by decide +kernel) rfl (Nat.le_of_ble_eq_true rfl) rfl ?_
  rfl
theorem l_M_backs_14 {sw : Bool} {w : mj_W} (hw : wk sw w) (f : mj_F) (x1 : Int) (x2 : Int)  : mj_run yM_backs w f 14 [.inr (.inl 223), .inl x1, .inl x2] [] = mj_gd (0 ≤ x1 ∧ x1 < ((16 : Nat) : Int)) (if (mj_w ((mj_w (4 * x1)) + (f 230 x1.toNat))) ≤ x2 then mj_bu (mj_call yM_closes w f [.inr (.inl 223)]) (fun f4 => mj_run yM_backs w f4 62 [.inr (.inl 223), .inl x1, .inl (mj_w (4 * x1))] []) else mj_gd (0 ≤ x2 ∧ x2 < ((64 : Nat) : Int)) (mj_gd (0 ≤ x2 ∧ x2 < ((64 : Nat) : Int)) (mj_bu (mj_call yM_meets w f [.inr (.inl 223), .inl (mj_w ((f 231 x2.toNat) + 1)), .inl 0, .inl 2, .inl (f 232 x2.toNat)]) (fun f7 => mj_run yM_backs w f7 14 [.inr (.inl 223), .inl x1, .inl (mj_w (x2 + 1))] [])))) := by
  refine ms_iload_n (k := 2) (p' := 15) (by decide +kernel) rfl rfl ?_
  refine ms_iconst (n := 4) (v := 4) (p' := 16) (by decide +kernel) rfl ?_
  refine ms_iload_n (k := 1) (p' := 17) (by decide +kernel) rfl rfl ?_
  refine ms_imul (p' := 18) (by decide +kernel) rfl ?_
  refine ms_aload_n (k := 0) (p' := 19) (by decide +kernel) rfl rfl ?_
  refine ms_getr (idx := 32) (ci := 9) (k := 12) (q := 1403) (p' := 22) (by decide +kernel) rfl (k_223 hw) (r_223_12 hw) (by decide) ?_
  refine ms_iload_n (k := 1) (p' := 23) (by decide +kernel) rfl rfl ?_
  refine ms_iald (p' := 24) (by decide +kernel) rfl (k_230 hw) (fun hj3 => ?_)
  refine ms_iadd (p' := 25) (by decide +kernel) rfl ?_
  refine ms_icmp_ge (off := 29) (t := 54) (p' := 28) (by decide +kernel) rfl (fun hc => ?_) (fun hc => ?_)
  · refine ms_aload_n (k := 0) (p' := 55) (by decide +kernel) rfl rfl ?_
    refine ms_virt_u (idx := 300) (cy := yM_closes) (n := 0) (a := 223) (as := []) (rest := []) (p' := 58) (by decide +kernel) rfl rfl rfl rfl (k_223 hw) rfl (fun f4 => ?_)
    refine ms_iconst (n := 4) (v := 4) (p' := 59) (by decide +kernel) rfl ?_
    refine ms_iload_n (k := 1) (p' := 60) (by decide +kernel) rfl rfl ?_
    refine ms_imul (p' := 61) (by decide +kernel) rfl ?_
    refine ms_istore_n (k := 2) (ls' := [.inr (.inl 223), .inl x1, .inl (mj_w (4 * x1))]) (p' := 62) (by decide +kernel) rfl (Nat.le_of_ble_eq_true rfl) rfl ?_
    rfl
  · refine ms_aload_n (k := 0) (p' := 29) (by decide +kernel) rfl rfl ?_
    refine ms_aload_n (k := 0) (p' := 30) (by decide +kernel) rfl rfl ?_
    refine ms_getr (idx := 35) (ci := 9) (k := 13) (q := 1404) (p' := 33) (by decide +kernel) rfl (k_223 hw) (r_223_13 hw) (by decide) ?_
    refine ms_iload_n (k := 2) (p' := 34) (by decide +kernel) rfl rfl ?_
    refine ms_iald (p' := 35) (by decide +kernel) rfl (k_231 hw) (fun hj5 => ?_)
    refine ms_iconst (n := 1) (v := 1) (p' := 36) (by decide +kernel) rfl ?_
    refine ms_iadd (p' := 37) (by decide +kernel) rfl ?_
    refine ms_iconst (n := 0) (v := 0) (p' := 38) (by decide +kernel) rfl ?_
    refine ms_iconst (n := 2) (v := 2) (p' := 39) (by decide +kernel) rfl ?_
    refine ms_aload_n (k := 0) (p' := 40) (by decide +kernel) rfl rfl ?_
    refine ms_getr (idx := 38) (ci := 9) (k := 14) (q := 1405) (p' := 43) (by decide +kernel) rfl (k_223 hw) (r_223_14 hw) (by decide) ?_
    refine ms_iload_n (k := 2) (p' := 44) (by decide +kernel) rfl rfl ?_
    refine ms_iald (p' := 45) (by decide +kernel) rfl (k_232 hw) (fun hj6 => ?_)
    refine ms_virt_u (idx := 296) (cy := yM_meets) (n := 4) (a := 223) (as := [.inl (mj_w ((f 231 x2.toNat) + 1)), .inl 0, .inl 2, .inl (f 232 x2.toNat)]) (rest := []) (p' := 48) (by decide +kernel) rfl rfl rfl rfl (k_223 hw) rfl (fun f7 => ?_)
    refine ms_iinc (k := 2) (n := 1) (ls' := [.inr (.inl 223), .inl x1, .inl (mj_w (x2 + 1))]) (p' := 51) (by decide +kernel) rfl rfl rfl ?_
    refine ms_goto (off := (-37)) (p' := 14) (by decide +kernel) ?_
    rfl
theorem l_M_backs_62 {sw : Bool} {w : mj_W} (hw : wk sw w) (f : mj_F) (x1 : Int) (x2 : Int)  : mj_run yM_backs w f 62 [.inr (.inl 223), .inl x1, .inl x2] [] = mj_gd (0 ≤ x1 ∧ x1 < ((16 : Nat) : Int)) (if (mj_w ((mj_w (4 * x1)) + (f 230 x1.toNat))) ≤ x2 then mj_bu (mj_call yM_whens w f [.inr (.inl 223), .inl (mj_w (8 + x1))]) (fun f9 => some (w, f9, none)) else mj_gd (0 ≤ x2 ∧ x2 < ((64 : Nat) : Int)) (mj_bu (mj_call yM_frees w f [.inr (.inl 223), .inl (mj_w ((f 231 x2.toNat) + 1))]) (fun f11 => mj_run yM_backs w f11 62 [.inr (.inl 223), .inl x1, .inl (mj_w (x2 + 1))] []))) := by
  refine ms_iload_n (k := 2) (p' := 63) (by decide +kernel) rfl rfl ?_
  refine ms_iconst (n := 4) (v := 4) (p' := 64) (by decide +kernel) rfl ?_
  refine ms_iload_n (k := 1) (p' := 65) (by decide +kernel) rfl rfl ?_
  refine ms_imul (p' := 66) (by decide +kernel) rfl ?_
  refine ms_aload_n (k := 0) (p' := 67) (by decide +kernel) rfl rfl ?_
  refine ms_getr (idx := 32) (ci := 9) (k := 12) (q := 1403) (p' := 70) (by decide +kernel) rfl (k_223 hw) (r_223_12 hw) (by decide) ?_
  refine ms_iload_n (k := 1) (p' := 71) (by decide +kernel) rfl rfl ?_
  refine ms_iald (p' := 72) (by decide +kernel) rfl (k_230 hw) (fun hj8 => ?_)
  refine ms_iadd (p' := 73) (by decide +kernel) rfl ?_
  refine ms_icmp_ge (off := 21) (t := 94) (p' := 76) (by decide +kernel) rfl (fun hc => ?_) (fun hc => ?_)
  · refine ms_aload_n (k := 0) (p' := 95) (by decide +kernel) rfl rfl ?_
    refine ms_bipush (n := 8) (v := 8) (p' := 97) (by decide +kernel) rfl ?_
    refine ms_iload_n (k := 1) (p' := 98) (by decide +kernel) rfl rfl ?_
    refine ms_iadd (p' := 99) (by decide +kernel) rfl ?_
    refine ms_virt_u (idx := 303) (cy := yM_whens) (n := 1) (a := 223) (as := [.inl (mj_w (8 + x1))]) (rest := []) (p' := 102) (by decide +kernel) rfl rfl rfl rfl (k_223 hw) rfl (fun f9 => ?_)
    exact ms_vret (by decide +kernel)
  · refine ms_aload_n (k := 0) (p' := 77) (by decide +kernel) rfl rfl ?_
    refine ms_aload_n (k := 0) (p' := 78) (by decide +kernel) rfl rfl ?_
    refine ms_getr (idx := 35) (ci := 9) (k := 13) (q := 1404) (p' := 81) (by decide +kernel) rfl (k_223 hw) (r_223_13 hw) (by decide) ?_
    refine ms_iload_n (k := 2) (p' := 82) (by decide +kernel) rfl rfl ?_
    refine ms_iald (p' := 83) (by decide +kernel) rfl (k_231 hw) (fun hj10 => ?_)
    refine ms_iconst (n := 1) (v := 1) (p' := 84) (by decide +kernel) rfl ?_
    refine ms_iadd (p' := 85) (by decide +kernel) rfl ?_
    refine ms_virt_u (idx := 315) (cy := yM_frees) (n := 1) (a := 223) (as := [.inl (mj_w ((f 231 x2.toNat) + 1))]) (rest := []) (p' := 88) (by decide +kernel) rfl rfl rfl rfl (k_223 hw) rfl (fun f11 => ?_)
    refine ms_iinc (k := 2) (n := 1) (ls' := [.inr (.inl 223), .inl x1, .inl (mj_w (x2 + 1))]) (p' := 91) (by decide +kernel) rfl rfl rfl ?_
    refine ms_goto (off := (-29)) (p' := 62) (by decide +kernel) ?_
    rfl
theorem c_M_back {sw : Bool} {w : mj_W} (hw : wk sw w) (f : mj_F) (x1 : Int) (x2 : Int)  : mj_call yM_back w f [.inr (.inl 223), .inl x1, .inl x2] = mj_bi (mj_call yM_isTable w (mj_u f 223 0 0) [.inl x1]) (fun f1 v2 => if v2 = 0 then some (w, f1, some (.inl (-1))) else mj_bi (mj_call yM_isEdge w f1 [.inr (.inl 223), .inl x2]) (fun f3 v4 => if ¬ v4 = 0 then mj_bu (mj_call yM_loads w f3 [.inr (.inl 223), .inl x1]) (fun f5 => mj_bu (mj_call yM_backs w f5 [.inr (.inl 223), .inl x2]) (fun f6 => mj_bi (mj_call yM_becomesTable w f6 [.inr (.inl 223), .inl x1]) (fun f7 v8 => some (w, f7, some (.inl v8))))) else some (w, f3, some (.inl (-1))))) := by
  show mj_run yM_back w f 0 [.inr (.inl 223), .inl x1, .inl x2] [] = _
  refine ms_aload_n (k := 0) (p' := 1) (by decide +kernel) rfl rfl ?_
  refine ms_iconst (n := 0) (v := 0) (p' := 2) (by decide +kernel) rfl ?_
  refine ms_puti (idx := 1) (ci := 9) (k := 0) (q := 1391) (p' := 5) (by decide +kernel) rfl (k_223 hw) ?_
  refine ms_iload_n (k := 1) (p' := 6) (by decide +kernel) rfl rfl ?_
  refine ms_stat_i (idx := 327) (cy := yM_isTable) (n := 1) (as := [.inl x1]) (rest := []) (p' := 9) (by decide +kernel) rfl rfl rfl rfl rfl (fun f1 v2 => ?_)
  refine ms_if_eq (off := 11) (t := 20) (p' := 12) (by decide +kernel) rfl (fun hc => ?_) (fun hc => ?_)
  · refine ms_iconst (n := (-1)) (v := (-1)) (p' := 21) (by decide +kernel) rfl ?_
    exact ms_iret (by decide +kernel)
  · refine ms_aload_n (k := 0) (p' := 13) (by decide +kernel) rfl rfl ?_
    refine ms_iload_n (k := 2) (p' := 14) (by decide +kernel) rfl rfl ?_
    refine ms_virt_i (idx := 359) (cy := yM_isEdge) (n := 1) (a := 223) (as := [.inl x2]) (rest := []) (p' := 17) (by decide +kernel) rfl rfl rfl rfl (k_223 hw) rfl (fun f3 v4 => ?_)
    refine ms_if_ne (off := 5) (t := 22) (p' := 20) (by decide +kernel) rfl (fun hc => ?_) (fun hc => ?_)
    · refine ms_aload_n (k := 0) (p' := 23) (by decide +kernel) rfl rfl ?_
      refine ms_iload_n (k := 1) (p' := 24) (by decide +kernel) rfl rfl ?_
      refine ms_virt_u (idx := 340) (cy := yM_loads) (n := 1) (a := 223) (as := [.inl x1]) (rest := []) (p' := 27) (by decide +kernel) rfl rfl rfl rfl (k_223 hw) rfl (fun f5 => ?_)
      refine ms_aload_n (k := 0) (p' := 28) (by decide +kernel) rfl rfl ?_
      refine ms_iload_n (k := 2) (p' := 29) (by decide +kernel) rfl rfl ?_
      refine ms_virt_u (idx := 365) (cy := yM_backs) (n := 1) (a := 223) (as := [.inl x2]) (rest := []) (p' := 32) (by decide +kernel) rfl rfl rfl rfl (k_223 hw) rfl (fun f6 => ?_)
      refine ms_aload_n (k := 0) (p' := 33) (by decide +kernel) rfl rfl ?_
      refine ms_iload_n (k := 1) (p' := 34) (by decide +kernel) rfl rfl ?_
      refine ms_virt_i (idx := 333) (cy := yM_becomesTable) (n := 1) (a := 223) (as := [.inl x1]) (rest := []) (p' := 37) (by decide +kernel) rfl rfl rfl rfl (k_223 hw) rfl (fun f7 v8 => ?_)
      exact ms_iret (by decide +kernel)
    · refine ms_iconst (n := (-1)) (v := (-1)) (p' := 21) (by decide +kernel) rfl ?_
      exact ms_iret (by decide +kernel)
theorem c_M_stretches {sw : Bool} {w : mj_W} (hw : wk sw w) (f : mj_F)   : mj_call yM_stretches w f [.inr (.inl 223)] = mj_run yM_stretches w (mj_u f 223 52 (mj_w ((f 223 52) + 1))) 17 [.inr (.inl 223), .inl (f 223 52), .inl 0] [] := by
  show mj_run yM_stretches w f 0 [.inr (.inl 223), .inr (.inr (.inr 0)), .inr (.inr (.inr 0))] [] = _
  refine ms_aload_n (k := 0) (p' := 1) (by decide +kernel) rfl rfl ?_
  refine ms_geti (idx := 280) (ci := 9) (k := 52) (q := 1443) (p' := 4) (by decide +kernel) rfl (k_223 hw) ?_
  refine ms_istore_n (k := 1) (ls' := [.inr (.inl 223), .inl (f 223 52), .inr (.inr (.inr 0))]) (p' := 5) (by decide +kernel) rfl (Nat.le_of_ble_eq_true rfl) rfl ?_
  refine ms_aload_n (k := 0) (p' := 6) (by decide +kernel) rfl rfl ?_
  refine ms_dup_a (p' := 7) (by decide +kernel) rfl ?_
  refine ms_geti (idx := 280) (ci := 9) (k := 52) (q := 1443) (p' := 10) (by decide +kernel) rfl (k_223 hw) ?_
  refine ms_iconst (n := 1) (v := 1) (p' := 11) (by decide +kernel) rfl ?_
  refine ms_iadd (p' := 12) (by decide +kernel) rfl ?_
  refine ms_puti (idx := 280) (ci := 9) (k := 52) (q := 1443) (p' := 15) (by decide +kernel) rfl (k_223 hw) ?_
  refine ms_iconst (n := 0) (v := 0) (p' := 16) (by decide +kernel) rfl ?_
  refine ms_istore_n (k := 2) (ls' := [.inr (.inl 223), .inl (f 223 52), .inl 0]) (p' := 17) (by decide +kernel) rfl (Nat.le_of_ble_eq_true rfl) rfl ?_
  rfl
theorem l_M_stretches_17 {sw : Bool} {w : mj_W} (hw : wk sw w) (f : mj_F) (x1 : Int) (x2 : Int)  : mj_run yM_stretches w f 17 [.inr (.inl 223), .inl x1, .inl x2] [] = if x1 ≤ x2 then mj_bu (mj_call yM_put w f [.inr (.inl 223), .inl x1, .inl x1, .inl 1]) (fun f1 => some (w, f1, none)) else mj_bi (mj_call yM_get w f [.inr (.inl 223), .inl 0, .inl x2]) (fun f2 v3 => mj_bu (mj_call yM_put w f2 [.inr (.inl 223), .inl x1, .inl x2, .inl v3]) (fun f4 => mj_bi (mj_call yM_get w f4 [.inr (.inl 223), .inl x2, .inl 0]) (fun f5 v6 => mj_bu (mj_call yM_put w f5 [.inr (.inl 223), .inl x2, .inl x1, .inl v6]) (fun f7 => mj_run yM_stretches w f7 17 [.inr (.inl 223), .inl x1, .inl (mj_w (x2 + 1))] [])))) := by
  refine ms_iload_n (k := 2) (p' := 18) (by decide +kernel) rfl rfl ?_
  refine ms_iload_n (k := 1) (p' := 19) (by decide +kernel) rfl rfl ?_
  refine ms_icmp_ge (off := 33) (t := 52) (p' := 22) (by decide +kernel) rfl (fun hc => ?_) (fun hc => ?_)
  · refine ms_aload_n (k := 0) (p' := 53) (by decide +kernel) rfl rfl ?_
    refine ms_iload_n (k := 1) (p' := 54) (by decide +kernel) rfl rfl ?_
    refine ms_iload_n (k := 1) (p' := 55) (by decide +kernel) rfl rfl ?_
    refine ms_iconst (n := 1) (v := 1) (p' := 56) (by decide +kernel) rfl ?_
    refine ms_virt_u (idx := 276) (cy := yM_put) (n := 3) (a := 223) (as := [.inl x1, .inl x1, .inl 1]) (rest := []) (p' := 59) (by decide +kernel) rfl rfl rfl rfl (k_223 hw) rfl (fun f1 => ?_)
    exact ms_vret (by decide +kernel)
  · refine ms_aload_n (k := 0) (p' := 23) (by decide +kernel) rfl rfl ?_
    refine ms_iload_n (k := 1) (p' := 24) (by decide +kernel) rfl rfl ?_
    refine ms_iload_n (k := 2) (p' := 25) (by decide +kernel) rfl rfl ?_
    refine ms_aload_n (k := 0) (p' := 26) (by decide +kernel) rfl rfl ?_
    refine ms_iconst (n := 0) (v := 0) (p' := 27) (by decide +kernel) rfl ?_
    refine ms_iload_n (k := 2) (p' := 28) (by decide +kernel) rfl rfl ?_
    refine ms_virt_i (idx := 272) (cy := yM_get) (n := 2) (a := 223) (as := [.inl 0, .inl x2]) (rest := [.inl x2, .inl x1, .inr (.inl 223)]) (p' := 31) (by decide +kernel) rfl rfl rfl rfl (k_223 hw) rfl (fun f2 v3 => ?_)
    refine ms_virt_u (idx := 276) (cy := yM_put) (n := 3) (a := 223) (as := [.inl x1, .inl x2, .inl v3]) (rest := []) (p' := 34) (by decide +kernel) rfl rfl rfl rfl (k_223 hw) rfl (fun f4 => ?_)
    refine ms_aload_n (k := 0) (p' := 35) (by decide +kernel) rfl rfl ?_
    refine ms_iload_n (k := 2) (p' := 36) (by decide +kernel) rfl rfl ?_
    refine ms_iload_n (k := 1) (p' := 37) (by decide +kernel) rfl rfl ?_
    refine ms_aload_n (k := 0) (p' := 38) (by decide +kernel) rfl rfl ?_
    refine ms_iload_n (k := 2) (p' := 39) (by decide +kernel) rfl rfl ?_
    refine ms_iconst (n := 0) (v := 0) (p' := 40) (by decide +kernel) rfl ?_
    refine ms_virt_i (idx := 272) (cy := yM_get) (n := 2) (a := 223) (as := [.inl x2, .inl 0]) (rest := [.inl x1, .inl x2, .inr (.inl 223)]) (p' := 43) (by decide +kernel) rfl rfl rfl rfl (k_223 hw) rfl (fun f5 v6 => ?_)
    refine ms_virt_u (idx := 276) (cy := yM_put) (n := 3) (a := 223) (as := [.inl x2, .inl x1, .inl v6]) (rest := []) (p' := 46) (by decide +kernel) rfl rfl rfl rfl (k_223 hw) rfl (fun f7 => ?_)
    refine ms_iinc (k := 2) (n := 1) (ls' := [.inr (.inl 223), .inl x1, .inl (mj_w (x2 + 1))]) (p' := 49) (by decide +kernel) rfl rfl rfl ?_
    refine ms_goto (off := (-32)) (p' := 17) (by decide +kernel) ?_
    rfl
theorem c_M_longest {sw : Bool} {w : mj_W} (hw : wk sw w) (f : mj_F) (x1 : Int) (x2 : Int) (x3 : Int)  : mj_call yM_longest w f [.inr (.inl 223), .inl x1, .inl x2, .inl x3] = mj_bi (mj_call yM_isTable w (mj_u f 223 0 0) [.inl x1]) (fun f1 v2 => if v2 = 0 then some (w, f1, some (.inl (-2000))) else mj_bi (mj_call yM_isPlace w f1 [.inr (.inl 223), .inl x2]) (fun f3 v4 => if v4 = 0 then some (w, f3, some (.inl (-2000))) else mj_bi (mj_call yM_isTwo w f3 [.inl x3]) (fun f5 v6 => if ¬ v6 = 0 then mj_bu (mj_call yM_loads w f5 [.inr (.inl 223), .inl x1]) (fun f7 => mj_bu (mj_call yM_whens w f7 [.inr (.inl 223), .inl x2]) (fun f8 => mj_bu (mj_call yM_stretches w f8 [.inr (.inl 223)]) (fun f9 => mj_bu (mj_call yM_ups w f9 [.inr (.inl 223)]) (fun f10 => mj_bu (mj_call yM_whens w f10 [.inr (.inl 223), .inl x2]) (fun f11 => if (f11 223 53) = 0 then mj_bi (mj_call yM_get w f11 [.inr (.inl 223), .inl (mj_w ((f11 223 52) - 1)), .inl 0]) (fun f12 v13 => mj_bi (mj_call yM_told w f12 [.inr (.inl 223), .inl v13, .inl x3]) (fun f14 v15 => some (w, f14, some (.inl v15)))) else some (w, f11, some (.inl (-1000)))))))) else some (w, f5, some (.inl (-2000)))))) := by
  show mj_run yM_longest w f 0 [.inr (.inl 223), .inl x1, .inl x2, .inl x3] [] = _
  refine ms_aload_n (k := 0) (p' := 1) (by decide +kernel) rfl rfl ?_
  refine ms_iconst (n := 0) (v := 0) (p' := 2) (by decide +kernel) rfl ?_
  refine ms_puti (idx := 1) (ci := 9) (k := 0) (q := 1391) (p' := 5) (by decide +kernel) rfl (k_223 hw) ?_
  refine ms_iload_n (k := 1) (p' := 6) (by decide +kernel) rfl rfl ?_
  refine ms_stat_i (idx := 327) (cy := yM_isTable) (n := 1) (as := [.inl x1]) (rest := []) (p' := 9) (by decide +kernel) rfl rfl rfl rfl rfl (fun f1 v2 => ?_)
  refine ms_if_eq (off := 18) (t := 27) (p' := 12) (by decide +kernel) rfl (fun hc => ?_) (fun hc => ?_)
  · refine ms_sipush (n := (-2000)) (v := (-2000)) (p' := 30) (by decide +kernel) rfl ?_
    exact ms_iret (by decide +kernel)
  · refine ms_aload_n (k := 0) (p' := 13) (by decide +kernel) rfl rfl ?_
    refine ms_iload_n (k := 2) (p' := 14) (by decide +kernel) rfl rfl ?_
    refine ms_virt_i (idx := 368) (cy := yM_isPlace) (n := 1) (a := 223) (as := [.inl x2]) (rest := []) (p' := 17) (by decide +kernel) rfl rfl rfl rfl (k_223 hw) rfl (fun f3 v4 => ?_)
    refine ms_if_eq (off := 10) (t := 27) (p' := 20) (by decide +kernel) rfl (fun hc => ?_) (fun hc => ?_)
    · refine ms_sipush (n := (-2000)) (v := (-2000)) (p' := 30) (by decide +kernel) rfl ?_
      exact ms_iret (by decide +kernel)
    · refine ms_iload_n (k := 3) (p' := 21) (by decide +kernel) rfl rfl ?_
      refine ms_stat_i (idx := 343) (cy := yM_isTwo) (n := 1) (as := [.inl x3]) (rest := []) (p' := 24) (by decide +kernel) rfl rfl rfl rfl rfl (fun f5 v6 => ?_)
      refine ms_if_ne (off := 7) (t := 31) (p' := 27) (by decide +kernel) rfl (fun hc => ?_) (fun hc => ?_)
      · refine ms_aload_n (k := 0) (p' := 32) (by decide +kernel) rfl rfl ?_
        refine ms_iload_n (k := 1) (p' := 33) (by decide +kernel) rfl rfl ?_
        refine ms_virt_u (idx := 340) (cy := yM_loads) (n := 1) (a := 223) (as := [.inl x1]) (rest := []) (p' := 36) (by decide +kernel) rfl rfl rfl rfl (k_223 hw) rfl (fun f7 => ?_)
        refine ms_aload_n (k := 0) (p' := 37) (by decide +kernel) rfl rfl ?_
        refine ms_iload_n (k := 2) (p' := 38) (by decide +kernel) rfl rfl ?_
        refine ms_virt_u (idx := 303) (cy := yM_whens) (n := 1) (a := 223) (as := [.inl x2]) (rest := []) (p' := 41) (by decide +kernel) rfl rfl rfl rfl (k_223 hw) rfl (fun f8 => ?_)
        refine ms_aload_n (k := 0) (p' := 42) (by decide +kernel) rfl rfl ?_
        refine ms_virt_u (idx := 396) (cy := yM_stretches) (n := 0) (a := 223) (as := []) (rest := []) (p' := 45) (by decide +kernel) rfl rfl rfl rfl (k_223 hw) rfl (fun f9 => ?_)
        refine ms_aload_n (k := 0) (p' := 46) (by decide +kernel) rfl rfl ?_
        refine ms_virt_u (idx := 306) (cy := yM_ups) (n := 0) (a := 223) (as := []) (rest := []) (p' := 49) (by decide +kernel) rfl rfl rfl rfl (k_223 hw) rfl (fun f10 => ?_)
        refine ms_aload_n (k := 0) (p' := 50) (by decide +kernel) rfl rfl ?_
        refine ms_iload_n (k := 2) (p' := 51) (by decide +kernel) rfl rfl ?_
        refine ms_virt_u (idx := 303) (cy := yM_whens) (n := 1) (a := 223) (as := [.inl x2]) (rest := []) (p' := 54) (by decide +kernel) rfl rfl rfl rfl (k_223 hw) rfl (fun f11 => ?_)
        refine ms_aload_n (k := 0) (p' := 55) (by decide +kernel) rfl rfl ?_
        refine ms_geti (idx := 289) (ci := 9) (k := 53) (q := 1444) (p' := 58) (by decide +kernel) rfl (k_223 hw) ?_
        refine ms_if_eq (off := 9) (t := 67) (p' := 61) (by decide +kernel) rfl (fun hc => ?_) (fun hc => ?_)
        · refine ms_aload_n (k := 0) (p' := 68) (by decide +kernel) rfl rfl ?_
          refine ms_aload_n (k := 0) (p' := 69) (by decide +kernel) rfl rfl ?_
          refine ms_aload_n (k := 0) (p' := 70) (by decide +kernel) rfl rfl ?_
          refine ms_geti (idx := 280) (ci := 9) (k := 52) (q := 1443) (p' := 73) (by decide +kernel) rfl (k_223 hw) ?_
          refine ms_iconst (n := 1) (v := 1) (p' := 74) (by decide +kernel) rfl ?_
          refine ms_isub (p' := 75) (by decide +kernel) rfl ?_
          refine ms_iconst (n := 0) (v := 0) (p' := 76) (by decide +kernel) rfl ?_
          refine ms_virt_i (idx := 272) (cy := yM_get) (n := 2) (a := 223) (as := [.inl (mj_w ((f11 223 52) - 1)), .inl 0]) (rest := [.inr (.inl 223)]) (p' := 79) (by decide +kernel) rfl rfl rfl rfl (k_223 hw) rfl (fun f12 v13 => ?_)
          refine ms_iload_n (k := 3) (p' := 80) (by decide +kernel) rfl rfl ?_
          refine ms_virt_i (idx := 380) (cy := yM_told) (n := 2) (a := 223) (as := [.inl v13, .inl x3]) (rest := []) (p' := 83) (by decide +kernel) rfl rfl rfl rfl (k_223 hw) rfl (fun f14 v15 => ?_)
          exact ms_iret (by decide +kernel)
        · refine ms_sipush (n := (-1000)) (v := (-1000)) (p' := 64) (by decide +kernel) rfl ?_
          refine ms_goto (off := 19) (p' := 83) (by decide +kernel) ?_
          exact ms_iret (by decide +kernel)
      · refine ms_sipush (n := (-2000)) (v := (-2000)) (p' := 30) (by decide +kernel) rfl ?_
        exact ms_iret (by decide +kernel)
theorem c_M_low {sw : Bool} {w : mj_W} (hw : wk sw w) (f : mj_F) (x0 : Int) (x1 : Int)  : mj_call yM_low w f [.inl x0, .inl x1] = if ¬ x1 = 0 then some (w, f, some (.inl (mj_and x0 1))) else mj_bi (mj_call yM_numberOf w f [.inl x0]) (fun f1 v2 => some (w, f1, some (.inl (mj_w (-v2))))) := by
  show mj_run yM_low w f 0 [.inl x0, .inl x1] [] = _
  refine ms_iload_n (k := 1) (p' := 1) (by decide +kernel) rfl rfl ?_
  refine ms_if_ne (off := 11) (t := 12) (p' := 4) (by decide +kernel) rfl (fun hc => ?_) (fun hc => ?_)
  · refine ms_iload_n (k := 0) (p' := 13) (by decide +kernel) rfl rfl ?_
    refine ms_iconst (n := 1) (v := 1) (p' := 14) (by decide +kernel) rfl ?_
    refine ms_iand (p' := 15) (by decide +kernel) rfl ?_
    exact ms_iret (by decide +kernel)
  · refine ms_iload_n (k := 0) (p' := 5) (by decide +kernel) rfl rfl ?_
    refine ms_stat_i (idx := 318) (cy := yM_numberOf) (n := 1) (as := [.inl x0]) (rest := []) (p' := 8) (by decide +kernel) rfl rfl rfl rfl rfl (fun f1 v2 => ?_)
    refine ms_ineg (p' := 9) (by decide +kernel) rfl ?_
    refine ms_goto (off := 6) (p' := 15) (by decide +kernel) ?_
    exact ms_iret (by decide +kernel)
theorem c_M_soonest {sw : Bool} {w : mj_W} (hw : wk sw w) (f : mj_F) (x1 : Int) (x2 : Int) (x3 : Int)  : mj_call yM_soonest w f [.inr (.inl 223), .inl x1, .inl x2, .inl x3] = mj_bi (mj_call yM_isTable w (mj_u f 223 0 0) [.inl x1]) (fun f1 v2 => if v2 = 0 then some (w, f1, some (.inl (-2000))) else mj_bi (mj_call yM_isEdge w f1 [.inr (.inl 223), .inl x2]) (fun f3 v4 => if v4 = 0 then some (w, f3, some (.inl (-2000))) else mj_bi (mj_call yM_isTwo w f3 [.inl x3]) (fun f5 v6 => if ¬ v6 = 0 then mj_bu (mj_call yM_loads w f5 [.inr (.inl 223), .inl x1]) (fun f7 => mj_gd (0 ≤ x2 ∧ x2 < ((16 : Nat) : Int)) (mj_bu (mj_call yM_whens w f7 [.inr (.inl 223), .inl (f7 228 x2.toNat)]) (fun f9 => mj_bu (mj_call yM_stretches w f9 [.inr (.inl 223)]) (fun f10 => mj_bu (mj_call yM_ups w f10 [.inr (.inl 223)]) (fun f11 => mj_gd (0 ≤ x2 ∧ x2 < ((16 : Nat) : Int)) (mj_bu (mj_call yM_whens w f11 [.inr (.inl 223), .inl (f11 228 x2.toNat)]) (fun f13 => mj_bu (mj_call yM_whens w f13 [.inr (.inl 223), .inl (mj_w (8 + x2))]) (fun f14 => if (f14 223 53) = 0 then mj_bi (mj_call yM_get w f14 [.inr (.inl 223), .inl 0, .inl (mj_w ((f14 223 52) - 1))]) (fun f15 v16 => mj_bi (mj_call yM_low w f15 [.inl v16, .inl x3]) (fun f17 v18 => some (w, f17, some (.inl v18)))) else some (w, f14, some (.inl (-1000))))))))))) else some (w, f5, some (.inl (-2000)))))) := by
  show mj_run yM_soonest w f 0 [.inr (.inl 223), .inl x1, .inl x2, .inl x3] [] = _
  refine ms_aload_n (k := 0) (p' := 1) (by decide +kernel) rfl rfl ?_
  refine ms_iconst (n := 0) (v := 0) (p' := 2) (by decide +kernel) rfl ?_
  refine ms_puti (idx := 1) (ci := 9) (k := 0) (q := 1391) (p' := 5) (by decide +kernel) rfl (k_223 hw) ?_
  refine ms_iload_n (k := 1) (p' := 6) (by decide +kernel) rfl rfl ?_
  refine ms_stat_i (idx := 327) (cy := yM_isTable) (n := 1) (as := [.inl x1]) (rest := []) (p' := 9) (by decide +kernel) rfl rfl rfl rfl rfl (fun f1 v2 => ?_)
  refine ms_if_eq (off := 18) (t := 27) (p' := 12) (by decide +kernel) rfl (fun hc => ?_) (fun hc => ?_)
  · refine ms_sipush (n := (-2000)) (v := (-2000)) (p' := 30) (by decide +kernel) rfl ?_
    exact ms_iret (by decide +kernel)
  · refine ms_aload_n (k := 0) (p' := 13) (by decide +kernel) rfl rfl ?_
    refine ms_iload_n (k := 2) (p' := 14) (by decide +kernel) rfl rfl ?_
    refine ms_virt_i (idx := 359) (cy := yM_isEdge) (n := 1) (a := 223) (as := [.inl x2]) (rest := []) (p' := 17) (by decide +kernel) rfl rfl rfl rfl (k_223 hw) rfl (fun f3 v4 => ?_)
    refine ms_if_eq (off := 10) (t := 27) (p' := 20) (by decide +kernel) rfl (fun hc => ?_) (fun hc => ?_)
    · refine ms_sipush (n := (-2000)) (v := (-2000)) (p' := 30) (by decide +kernel) rfl ?_
      exact ms_iret (by decide +kernel)
    · refine ms_iload_n (k := 3) (p' := 21) (by decide +kernel) rfl rfl ?_
      refine ms_stat_i (idx := 343) (cy := yM_isTwo) (n := 1) (as := [.inl x3]) (rest := []) (p' := 24) (by decide +kernel) rfl rfl rfl rfl rfl (fun f5 v6 => ?_)
      refine ms_if_ne (off := 7) (t := 31) (p' := 27) (by decide +kernel) rfl (fun hc => ?_) (fun hc => ?_)
      · refine ms_aload_n (k := 0) (p' := 32) (by decide +kernel) rfl rfl ?_
        refine ms_iload_n (k := 1) (p' := 33) (by decide +kernel) rfl rfl ?_
        refine ms_virt_u (idx := 340) (cy := yM_loads) (n := 1) (a := 223) (as := [.inl x1]) (rest := []) (p' := 36) (by decide +kernel) rfl rfl rfl rfl (k_223 hw) rfl (fun f7 => ?_)
        refine ms_aload_n (k := 0) (p' := 37) (by decide +kernel) rfl rfl ?_
        refine ms_aload_n (k := 0) (p' := 38) (by decide +kernel) rfl rfl ?_
        refine ms_getr (idx := 26) (ci := 9) (k := 10) (q := 1401) (p' := 41) (by decide +kernel) rfl (k_223 hw) (r_223_10 hw) (by decide) ?_
        refine ms_iload_n (k := 2) (p' := 42) (by decide +kernel) rfl rfl ?_
        refine ms_iald (p' := 43) (by decide +kernel) rfl (k_228 hw) (fun hj8 => ?_)
        refine ms_virt_u (idx := 303) (cy := yM_whens) (n := 1) (a := 223) (as := [.inl (f7 228 x2.toNat)]) (rest := []) (p' := 46) (by decide +kernel) rfl rfl rfl rfl (k_223 hw) rfl (fun f9 => ?_)
        refine ms_aload_n (k := 0) (p' := 47) (by decide +kernel) rfl rfl ?_
        refine ms_virt_u (idx := 396) (cy := yM_stretches) (n := 0) (a := 223) (as := []) (rest := []) (p' := 50) (by decide +kernel) rfl rfl rfl rfl (k_223 hw) rfl (fun f10 => ?_)
        refine ms_aload_n (k := 0) (p' := 51) (by decide +kernel) rfl rfl ?_
        refine ms_virt_u (idx := 306) (cy := yM_ups) (n := 0) (a := 223) (as := []) (rest := []) (p' := 54) (by decide +kernel) rfl rfl rfl rfl (k_223 hw) rfl (fun f11 => ?_)
        refine ms_aload_n (k := 0) (p' := 55) (by decide +kernel) rfl rfl ?_
        refine ms_aload_n (k := 0) (p' := 56) (by decide +kernel) rfl rfl ?_
        refine ms_getr (idx := 26) (ci := 9) (k := 10) (q := 1401) (p' := 59) (by decide +kernel) rfl (k_223 hw) (r_223_10 hw) (by decide) ?_
        refine ms_iload_n (k := 2) (p' := 60) (by decide +kernel) rfl rfl ?_
        refine ms_iald (p' := 61) (by decide +kernel) rfl (k_228 hw) (fun hj12 => ?_)
        refine ms_virt_u (idx := 303) (cy := yM_whens) (n := 1) (a := 223) (as := [.inl (f11 228 x2.toNat)]) (rest := []) (p' := 64) (by decide +kernel) rfl rfl rfl rfl (k_223 hw) rfl (fun f13 => ?_)
        refine ms_aload_n (k := 0) (p' := 65) (by decide +kernel) rfl rfl ?_
        refine ms_bipush (n := 8) (v := 8) (p' := 67) (by decide +kernel) rfl ?_
        refine ms_iload_n (k := 2) (p' := 68) (by decide +kernel) rfl rfl ?_
        refine ms_iadd (p' := 69) (by decide +kernel) rfl ?_
        refine ms_virt_u (idx := 303) (cy := yM_whens) (n := 1) (a := 223) (as := [.inl (mj_w (8 + x2))]) (rest := []) (p' := 72) (by decide +kernel) rfl rfl rfl rfl (k_223 hw) rfl (fun f14 => ?_)
        refine ms_aload_n (k := 0) (p' := 73) (by decide +kernel) rfl rfl ?_
        refine ms_geti (idx := 289) (ci := 9) (k := 53) (q := 1444) (p' := 76) (by decide +kernel) rfl (k_223 hw) ?_
        refine ms_if_eq (off := 9) (t := 85) (p' := 79) (by decide +kernel) rfl (fun hc => ?_) (fun hc => ?_)
        · refine ms_aload_n (k := 0) (p' := 86) (by decide +kernel) rfl rfl ?_
          refine ms_iconst (n := 0) (v := 0) (p' := 87) (by decide +kernel) rfl ?_
          refine ms_aload_n (k := 0) (p' := 88) (by decide +kernel) rfl rfl ?_
          refine ms_geti (idx := 280) (ci := 9) (k := 52) (q := 1443) (p' := 91) (by decide +kernel) rfl (k_223 hw) ?_
          refine ms_iconst (n := 1) (v := 1) (p' := 92) (by decide +kernel) rfl ?_
          refine ms_isub (p' := 93) (by decide +kernel) rfl ?_
          refine ms_virt_i (idx := 272) (cy := yM_get) (n := 2) (a := 223) (as := [.inl 0, .inl (mj_w ((f14 223 52) - 1))]) (rest := []) (p' := 96) (by decide +kernel) rfl rfl rfl rfl (k_223 hw) rfl (fun f15 v16 => ?_)
          refine ms_iload_n (k := 3) (p' := 97) (by decide +kernel) rfl rfl ?_
          refine ms_stat_i (idx := 399) (cy := yM_low) (n := 2) (as := [.inl v16, .inl x3]) (rest := []) (p' := 100) (by decide +kernel) rfl rfl rfl rfl rfl (fun f17 v18 => ?_)
          exact ms_iret (by decide +kernel)
        · refine ms_sipush (n := (-1000)) (v := (-1000)) (p' := 82) (by decide +kernel) rfl ?_
          refine ms_goto (off := 18) (p' := 100) (by decide +kernel) ?_
          exact ms_iret (by decide +kernel)
      · refine ms_sipush (n := (-2000)) (v := (-2000)) (p' := 30) (by decide +kernel) rfl ?_
        exact ms_iret (by decide +kernel)
theorem c_M_leads {sw : Bool} {w : mj_W} (hw : wk sw w) (f : mj_F) (x1 : Int)  : mj_call yM_leads w f [.inr (.inl 223), .inl x1] = mj_bi (mj_call yM_isPlace w (mj_u f 223 0 0) [.inr (.inl 223), .inl x1]) (fun f1 v2 => if ¬ v2 = 0 then mj_run yM_leads w f1 21 [.inr (.inl 223), .inl x1, .inl (mj_shl 1 x1), .inl 0, .inr (.inr (.inr 0))] [] else some (w, f1, some (.inl (-1)))) := by
  show mj_run yM_leads w f 0 [.inr (.inl 223), .inl x1, .inr (.inr (.inr 0)), .inr (.inr (.inr 0)), .inr (.inr (.inr 0))] [] = _
  refine ms_aload_n (k := 0) (p' := 1) (by decide +kernel) rfl rfl ?_
  refine ms_iconst (n := 0) (v := 0) (p' := 2) (by decide +kernel) rfl ?_
  refine ms_puti (idx := 1) (ci := 9) (k := 0) (q := 1391) (p' := 5) (by decide +kernel) rfl (k_223 hw) ?_
  refine ms_aload_n (k := 0) (p' := 6) (by decide +kernel) rfl rfl ?_
  refine ms_iload_n (k := 1) (p' := 7) (by decide +kernel) rfl rfl ?_
  refine ms_virt_i (idx := 368) (cy := yM_isPlace) (n := 1) (a := 223) (as := [.inl x1]) (rest := []) (p' := 10) (by decide +kernel) rfl rfl rfl rfl (k_223 hw) rfl (fun f1 v2 => ?_)
  refine ms_if_ne (off := 5) (t := 15) (p' := 13) (by decide +kernel) rfl (fun hc => ?_) (fun hc => ?_)
  · refine ms_iconst (n := 1) (v := 1) (p' := 16) (by decide +kernel) rfl ?_
    refine ms_iload_n (k := 1) (p' := 17) (by decide +kernel) rfl rfl ?_
    refine ms_ishl (p' := 18) (by decide +kernel) rfl ?_
    refine ms_istore_n (k := 2) (ls' := [.inr (.inl 223), .inl x1, .inl (mj_shl 1 x1), .inr (.inr (.inr 0)), .inr (.inr (.inr 0))]) (p' := 19) (by decide +kernel) rfl (Nat.le_of_ble_eq_true rfl) rfl ?_
    refine ms_iconst (n := 0) (v := 0) (p' := 20) (by decide +kernel) rfl ?_
    refine ms_istore_n (k := 3) (ls' := [.inr (.inl 223), .inl x1, .inl (mj_shl 1 x1), .inl 0, .inr (.inr (.inr 0))]) (p' := 21) (by decide +kernel) rfl (Nat.le_of_ble_eq_true rfl) rfl ?_
    rfl
  · refine ms_iconst (n := (-1)) (v := (-1)) (p' := 14) (by decide +kernel) rfl ?_
    exact ms_iret (by decide +kernel)
theorem l_M_leads_21 {sw : Bool} {w : mj_W} (hw : wk sw w) (f : mj_F) (x1 : Int) (x2 : Int) (x3 : Int) (u4 : mj_V)  : mj_run yM_leads w f 21 [.inr (.inl 223), .inl x1, .inl x2, .inl x3, u4] [] = if 8 ≤ x3 then some (w, f, some (.inl x2)) else mj_run yM_leads w f 30 [.inr (.inl 223), .inl x1, .inl x2, .inl x3, .inl 0] [] := by
  refine ms_iload_n (k := 3) (p' := 22) (by decide +kernel) rfl rfl ?_
  refine ms_bipush (n := 8) (v := 8) (p' := 24) (by decide +kernel) rfl ?_
  refine ms_icmp_ge (off := 54) (t := 78) (p' := 27) (by decide +kernel) rfl (fun hc => ?_) (fun hc => ?_)
  · refine ms_iload_n (k := 2) (p' := 79) (by decide +kernel) rfl rfl ?_
    exact ms_iret (by decide +kernel)
  · refine ms_iconst (n := 0) (v := 0) (p' := 28) (by decide +kernel) rfl ?_
    refine ms_istore (k := 4) (ls' := [.inr (.inl 223), .inl x1, .inl x2, .inl x3, .inl 0]) (p' := 30) (by decide +kernel) rfl (Nat.le_of_ble_eq_true rfl) rfl ?_
    rfl
theorem l_M_leads_30 {sw : Bool} {w : mj_W} (hw : wk sw w) (f : mj_F) (x1 : Int) (x2 : Int) (x3 : Int) (x4 : Int)  : mj_run yM_leads w f 30 [.inr (.inl 223), .inl x1, .inl x2, .inl x3, .inl x4] [] = if (f 223 4) ≤ x4 then mj_run yM_leads w f 21 [.inr (.inl 223), .inl x1, .inl x2, .inl (mj_w (x3 + 1)), .inl x4] [] else mj_gd (0 ≤ x4 ∧ x4 < ((16 : Nat) : Int)) (if ¬ (mj_and (mj_shr x2 (f 228 x4.toNat)) 1) = 1 then mj_run yM_leads w f 30 [.inr (.inl 223), .inl x1, .inl x2, .inl x3, .inl (mj_w (x4 + 1))] [] else mj_gd (0 ≤ x4 ∧ x4 < ((16 : Nat) : Int)) (mj_run yM_leads w f 30 [.inr (.inl 223), .inl x1, .inl (mj_or x2 (mj_shl 1 (f 229 x4.toNat))), .inl x3, .inl (mj_w (x4 + 1))] [])) := by
  refine ms_iload (k := 4) (p' := 32) (by decide +kernel) rfl rfl ?_
  refine ms_aload_n (k := 0) (p' := 33) (by decide +kernel) rfl rfl ?_
  refine ms_geti (idx := 248) (ci := 9) (k := 4) (q := 1395) (p' := 36) (by decide +kernel) rfl (k_223 hw) ?_
  refine ms_icmp_ge (off := 36) (t := 72) (p' := 39) (by decide +kernel) rfl (fun hc => ?_) (fun hc => ?_)
  · refine ms_iinc (k := 3) (n := 1) (ls' := [.inr (.inl 223), .inl x1, .inl x2, .inl (mj_w (x3 + 1)), .inl x4]) (p' := 75) (by decide +kernel) rfl rfl rfl ?_
    refine ms_goto (off := (-54)) (p' := 21) (by decide +kernel) ?_
    rfl
  · refine ms_iload_n (k := 2) (p' := 40) (by decide +kernel) rfl rfl ?_
    refine ms_aload_n (k := 0) (p' := 41) (by decide +kernel) rfl rfl ?_
    refine ms_getr (idx := 26) (ci := 9) (k := 10) (q := 1401) (p' := 44) (by decide +kernel) rfl (k_223 hw) (r_223_10 hw) (by decide) ?_
    refine ms_iload (k := 4) (p' := 46) (by decide +kernel) rfl rfl ?_
    refine ms_iald (p' := 47) (by decide +kernel) rfl (k_228 hw) (fun hj3 => ?_)
    refine ms_ishr (p' := 48) (by decide +kernel) rfl ?_
    refine ms_iconst (n := 1) (v := 1) (p' := 49) (by decide +kernel) rfl ?_
    refine ms_iand (p' := 50) (by decide +kernel) rfl ?_
    refine ms_iconst (n := 1) (v := 1) (p' := 51) (by decide +kernel) rfl ?_
    refine ms_icmp_ne (off := 15) (t := 66) (p' := 54) (by decide +kernel) rfl (fun hc => ?_) (fun hc => ?_)
    · refine ms_iinc (k := 4) (n := 1) (ls' := [.inr (.inl 223), .inl x1, .inl x2, .inl x3, .inl (mj_w (x4 + 1))]) (p' := 69) (by decide +kernel) rfl rfl rfl ?_
      refine ms_goto (off := (-39)) (p' := 30) (by decide +kernel) ?_
      rfl
    · refine ms_iload_n (k := 2) (p' := 55) (by decide +kernel) rfl rfl ?_
      refine ms_iconst (n := 1) (v := 1) (p' := 56) (by decide +kernel) rfl ?_
      refine ms_aload_n (k := 0) (p' := 57) (by decide +kernel) rfl rfl ?_
      refine ms_getr (idx := 29) (ci := 9) (k := 11) (q := 1402) (p' := 60) (by decide +kernel) rfl (k_223 hw) (r_223_11 hw) (by decide) ?_
      refine ms_iload (k := 4) (p' := 62) (by decide +kernel) rfl rfl ?_
      refine ms_iald (p' := 63) (by decide +kernel) rfl (k_229 hw) (fun hj4 => ?_)
      refine ms_ishl (p' := 64) (by decide +kernel) rfl ?_
      refine ms_ior (p' := 65) (by decide +kernel) rfl ?_
      refine ms_istore_n (k := 2) (ls' := [.inr (.inl 223), .inl x1, .inl (mj_or x2 (mj_shl 1 (f 229 x4.toNat))), .inl x3, .inl x4]) (p' := 66) (by decide +kernel) rfl (Nat.le_of_ble_eq_true rfl) rfl ?_
      refine ms_iinc (k := 4) (n := 1) (ls' := [.inr (.inl 223), .inl x1, .inl (mj_or x2 (mj_shl 1 (f 229 x4.toNat))), .inl x3, .inl (mj_w (x4 + 1))]) (p' := 69) (by decide +kernel) rfl rfl rfl ?_
      refine ms_goto (off := (-39)) (p' := 30) (by decide +kernel) ?_
      rfl
theorem c_M_fastest {sw : Bool} {w : mj_W} (hw : wk sw w) (f : mj_F) (x1 : Int) (x2 : Int)  : mj_call yM_fastest w f [.inr (.inl 223), .inl x1, .inl x2] = mj_bi (mj_call yM_isPlace w (mj_u f 223 0 0) [.inr (.inl 223), .inl x1]) (fun f1 v2 => if v2 = 0 then some (w, f1, some (.inl (-1))) else mj_bi (mj_call yM_isTwo w f1 [.inl x2]) (fun f3 v4 => if ¬ v4 = 0 then mj_bi (mj_call yM_laysRoad w f3 [.inr (.inl 223), .inl x1]) (fun f5 v6 => if ¬ v6 = 0 then if ¬ (f5 223 56) = 0 then mj_bu (mj_call yM_laysTimes w f5 [.inr (.inl 223), .inr (.inl 254), .inl 0, .inl (f5 223 56)]) (fun f7 => if (f7 223 53) = 0 then mj_bi (mj_call yM_spanOf w f7 [.inr (.inl 223), .inl 0, .inl (f7 223 56), .inl 0, .inl x2]) (fun f8 v9 => some (w, f8, some (.inl v9))) else some (w, f7, some (.inl (-3)))) else some (w, f5, some (.inl x2)) else some (w, f5, some (.inl (-2)))) else some (w, f3, some (.inl (-1))))) := by
  show mj_run yM_fastest w f 0 [.inr (.inl 223), .inl x1, .inl x2] [] = _
  refine ms_aload_n (k := 0) (p' := 1) (by decide +kernel) rfl rfl ?_
  refine ms_iconst (n := 0) (v := 0) (p' := 2) (by decide +kernel) rfl ?_
  refine ms_puti (idx := 1) (ci := 9) (k := 0) (q := 1391) (p' := 5) (by decide +kernel) rfl (k_223 hw) ?_
  refine ms_aload_n (k := 0) (p' := 6) (by decide +kernel) rfl rfl ?_
  refine ms_iload_n (k := 1) (p' := 7) (by decide +kernel) rfl rfl ?_
  refine ms_virt_i (idx := 368) (cy := yM_isPlace) (n := 1) (a := 223) (as := [.inl x1]) (rest := []) (p' := 10) (by decide +kernel) rfl rfl rfl rfl (k_223 hw) rfl (fun f1 v2 => ?_)
  refine ms_if_eq (off := 10) (t := 20) (p' := 13) (by decide +kernel) rfl (fun hc => ?_) (fun hc => ?_)
  · refine ms_iconst (n := (-1)) (v := (-1)) (p' := 21) (by decide +kernel) rfl ?_
    exact ms_iret (by decide +kernel)
  · refine ms_iload_n (k := 2) (p' := 14) (by decide +kernel) rfl rfl ?_
    refine ms_stat_i (idx := 343) (cy := yM_isTwo) (n := 1) (as := [.inl x2]) (rest := []) (p' := 17) (by decide +kernel) rfl rfl rfl rfl rfl (fun f3 v4 => ?_)
    refine ms_if_ne (off := 5) (t := 22) (p' := 20) (by decide +kernel) rfl (fun hc => ?_) (fun hc => ?_)
    · refine ms_aload_n (k := 0) (p' := 23) (by decide +kernel) rfl rfl ?_
      refine ms_iload_n (k := 1) (p' := 24) (by decide +kernel) rfl rfl ?_
      refine ms_virt_i (idx := 417) (cy := yM_laysRoad) (n := 1) (a := 223) (as := [.inl x1]) (rest := []) (p' := 27) (by decide +kernel) rfl rfl rfl rfl (k_223 hw) rfl (fun f5 v6 => ?_)
      refine ms_if_ne (off := 6) (t := 33) (p' := 30) (by decide +kernel) rfl (fun hc => ?_) (fun hc => ?_)
      · refine ms_aload_n (k := 0) (p' := 34) (by decide +kernel) rfl rfl ?_
        refine ms_geti (idx := 414) (ci := 9) (k := 56) (q := 1447) (p' := 37) (by decide +kernel) rfl (k_223 hw) ?_
        refine ms_if_ne (off := 5) (t := 42) (p' := 40) (by decide +kernel) rfl (fun hc => ?_) (fun hc => ?_)
        · refine ms_aload_n (k := 0) (p' := 43) (by decide +kernel) rfl rfl ?_
          refine ms_aload_n (k := 0) (p' := 44) (by decide +kernel) rfl rfl ?_
          refine ms_getr (idx := 108) (ci := 9) (k := 55) (q := 1446) (p' := 47) (by decide +kernel) rfl (k_223 hw) (r_223_55 hw) (by decide) ?_
          refine ms_iconst (n := 0) (v := 0) (p' := 48) (by decide +kernel) rfl ?_
          refine ms_aload_n (k := 0) (p' := 49) (by decide +kernel) rfl rfl ?_
          refine ms_geti (idx := 414) (ci := 9) (k := 56) (q := 1447) (p' := 52) (by decide +kernel) rfl (k_223 hw) ?_
          refine ms_virt_u (idx := 438) (cy := yM_laysTimes) (n := 3) (a := 223) (as := [.inr (.inl 254), .inl 0, .inl (f5 223 56)]) (rest := []) (p' := 55) (by decide +kernel) rfl rfl rfl rfl (k_223 hw) rfl (fun f7 => ?_)
          refine ms_aload_n (k := 0) (p' := 56) (by decide +kernel) rfl rfl ?_
          refine ms_geti (idx := 289) (ci := 9) (k := 53) (q := 1444) (p' := 59) (by decide +kernel) rfl (k_223 hw) ?_
          refine ms_if_eq (off := 8) (t := 67) (p' := 62) (by decide +kernel) rfl (fun hc => ?_) (fun hc => ?_)
          · refine ms_aload_n (k := 0) (p' := 68) (by decide +kernel) rfl rfl ?_
            refine ms_iconst (n := 0) (v := 0) (p' := 69) (by decide +kernel) rfl ?_
            refine ms_aload_n (k := 0) (p' := 70) (by decide +kernel) rfl rfl ?_
            refine ms_geti (idx := 414) (ci := 9) (k := 56) (q := 1447) (p' := 73) (by decide +kernel) rfl (k_223 hw) ?_
            refine ms_iconst (n := 0) (v := 0) (p' := 74) (by decide +kernel) rfl ?_
            refine ms_iload_n (k := 2) (p' := 75) (by decide +kernel) rfl rfl ?_
            refine ms_virt_i (idx := 445) (cy := yM_spanOf) (n := 4) (a := 223) (as := [.inl 0, .inl (f7 223 56), .inl 0, .inl x2]) (rest := []) (p' := 78) (by decide +kernel) rfl rfl rfl rfl (k_223 hw) rfl (fun f8 v9 => ?_)
            exact ms_iret (by decide +kernel)
          · refine ms_bipush (n := (-3)) (v := (-3)) (p' := 64) (by decide +kernel) rfl ?_
            refine ms_goto (off := 14) (p' := 78) (by decide +kernel) ?_
            exact ms_iret (by decide +kernel)
        · refine ms_iload_n (k := 2) (p' := 41) (by decide +kernel) rfl rfl ?_
          exact ms_iret (by decide +kernel)
      · refine ms_bipush (n := (-2)) (v := (-2)) (p' := 32) (by decide +kernel) rfl ?_
        exact ms_iret (by decide +kernel)
    · refine ms_iconst (n := (-1)) (v := (-1)) (p' := 21) (by decide +kernel) rfl ?_
      exact ms_iret (by decide +kernel)
theorem c_M_moment {sw : Bool} {w : mj_W} (hw : wk sw w) (f : mj_F) (x1 : Int)  : mj_call yM_moment w f [.inr (.inl 223), .inl x1] = if 0 ≤ x1 then mj_bi (mj_call yM_traced w (mj_u f 223 0 0) [.inr (.inl 223)]) (fun f1 v2 => if x1 < v2 then mj_bu (mj_call yM_laysTrace w f1 [.inr (.inl 223)]) (fun f3 => if (f3 223 53) = 0 then mj_bu (mj_call yM_wholes w f3 [.inr (.inl 223)]) (fun f4 => if (f4 223 53) = 0 then mj_bi (mj_call yM_get w f4 [.inr (.inl 223), .inl 0, .inl (mj_w (x1 + 1))]) (fun f5 v6 => mj_bi (mj_call yM_numberOf w f5 [.inl v6]) (fun f7 v8 => some (w, f7, some (.inl (mj_w (-v8)))))) else some (w, f4, some (.inl (-4)))) else some (w, f3, some (.inl (-3)))) else some (w, f1, some (.inl (-2)))) else some (w, (mj_u f 223 0 0), some (.inl (-1))) := by
  show mj_run yM_moment w f 0 [.inr (.inl 223), .inl x1] [] = _
  refine ms_aload_n (k := 0) (p' := 1) (by decide +kernel) rfl rfl ?_
  refine ms_iconst (n := 0) (v := 0) (p' := 2) (by decide +kernel) rfl ?_
  refine ms_puti (idx := 1) (ci := 9) (k := 0) (q := 1391) (p' := 5) (by decide +kernel) rfl (k_223 hw) ?_
  refine ms_iload_n (k := 1) (p' := 6) (by decide +kernel) rfl rfl ?_
  refine ms_if_ge (off := 5) (t := 11) (p' := 9) (by decide +kernel) rfl (fun hc => ?_) (fun hc => ?_)
  · refine ms_iload_n (k := 1) (p' := 12) (by decide +kernel) rfl rfl ?_
    refine ms_aload_n (k := 0) (p' := 13) (by decide +kernel) rfl rfl ?_
    refine ms_virt_i (idx := 435) (cy := yM_traced) (n := 0) (a := 223) (as := []) (rest := [.inl x1]) (p' := 16) (by decide +kernel) rfl rfl rfl rfl (k_223 hw) rfl (fun f1 v2 => ?_)
    refine ms_icmp_lt (off := 6) (t := 22) (p' := 19) (by decide +kernel) rfl (fun hc => ?_) (fun hc => ?_)
    · refine ms_aload_n (k := 0) (p' := 23) (by decide +kernel) rfl rfl ?_
      refine ms_virt_u (idx := 442) (cy := yM_laysTrace) (n := 0) (a := 223) (as := []) (rest := []) (p' := 26) (by decide +kernel) rfl rfl rfl rfl (k_223 hw) rfl (fun f3 => ?_)
      refine ms_aload_n (k := 0) (p' := 27) (by decide +kernel) rfl rfl ?_
      refine ms_geti (idx := 289) (ci := 9) (k := 53) (q := 1444) (p' := 30) (by decide +kernel) rfl (k_223 hw) ?_
      refine ms_if_eq (off := 6) (t := 36) (p' := 33) (by decide +kernel) rfl (fun hc => ?_) (fun hc => ?_)
      · refine ms_aload_n (k := 0) (p' := 37) (by decide +kernel) rfl rfl ?_
        refine ms_virt_u (idx := 393) (cy := yM_wholes) (n := 0) (a := 223) (as := []) (rest := []) (p' := 40) (by decide +kernel) rfl rfl rfl rfl (k_223 hw) rfl (fun f4 => ?_)
        refine ms_aload_n (k := 0) (p' := 41) (by decide +kernel) rfl rfl ?_
        refine ms_geti (idx := 289) (ci := 9) (k := 53) (q := 1444) (p' := 44) (by decide +kernel) rfl (k_223 hw) ?_
        refine ms_if_eq (off := 8) (t := 52) (p' := 47) (by decide +kernel) rfl (fun hc => ?_) (fun hc => ?_)
        · refine ms_aload_n (k := 0) (p' := 53) (by decide +kernel) rfl rfl ?_
          refine ms_iconst (n := 0) (v := 0) (p' := 54) (by decide +kernel) rfl ?_
          refine ms_iload_n (k := 1) (p' := 55) (by decide +kernel) rfl rfl ?_
          refine ms_iconst (n := 1) (v := 1) (p' := 56) (by decide +kernel) rfl ?_
          refine ms_iadd (p' := 57) (by decide +kernel) rfl ?_
          refine ms_virt_i (idx := 272) (cy := yM_get) (n := 2) (a := 223) (as := [.inl 0, .inl (mj_w (x1 + 1))]) (rest := []) (p' := 60) (by decide +kernel) rfl rfl rfl rfl (k_223 hw) rfl (fun f5 v6 => ?_)
          refine ms_stat_i (idx := 318) (cy := yM_numberOf) (n := 1) (as := [.inl v6]) (rest := []) (p' := 63) (by decide +kernel) rfl rfl rfl rfl rfl (fun f7 v8 => ?_)
          refine ms_ineg (p' := 64) (by decide +kernel) rfl ?_
          exact ms_iret (by decide +kernel)
        · refine ms_bipush (n := (-4)) (v := (-4)) (p' := 49) (by decide +kernel) rfl ?_
          refine ms_goto (off := 15) (p' := 64) (by decide +kernel) ?_
          exact ms_iret (by decide +kernel)
      · refine ms_bipush (n := (-3)) (v := (-3)) (p' := 35) (by decide +kernel) rfl ?_
        exact ms_iret (by decide +kernel)
    · refine ms_bipush (n := (-2)) (v := (-2)) (p' := 21) (by decide +kernel) rfl ?_
      exact ms_iret (by decide +kernel)
  · refine ms_iconst (n := (-1)) (v := (-1)) (p' := 10) (by decide +kernel) rfl ?_
    exact ms_iret (by decide +kernel)
theorem c_M_deepest {sw : Bool} {w : mj_W} (hw : wk sw w) (f : mj_F) (x1 : Int)  : mj_call yM_deepest w f [.inr (.inl 223), .inl x1] = mj_bi (mj_call yM_isTwo w (mj_u f 223 0 0) [.inl x1]) (fun f1 v2 => if ¬ v2 = 0 then mj_run yM_deepest w f1 22 [.inr (.inl 223), .inl x1, .inl (-2), .inl (-1), .inl 0, .inr (.inr (.inr 0))] [] else some (w, f1, some (.inl (-1)))) := by
  show mj_run yM_deepest w f 0 [.inr (.inl 223), .inl x1, .inr (.inr (.inr 0)), .inr (.inr (.inr 0)), .inr (.inr (.inr 0)), .inr (.inr (.inr 0))] [] = _
  refine ms_aload_n (k := 0) (p' := 1) (by decide +kernel) rfl rfl ?_
  refine ms_iconst (n := 0) (v := 0) (p' := 2) (by decide +kernel) rfl ?_
  refine ms_puti (idx := 1) (ci := 9) (k := 0) (q := 1391) (p' := 5) (by decide +kernel) rfl (k_223 hw) ?_
  refine ms_iload_n (k := 1) (p' := 6) (by decide +kernel) rfl rfl ?_
  refine ms_stat_i (idx := 343) (cy := yM_isTwo) (n := 1) (as := [.inl x1]) (rest := []) (p' := 9) (by decide +kernel) rfl rfl rfl rfl rfl (fun f1 v2 => ?_)
  refine ms_if_ne (off := 5) (t := 14) (p' := 12) (by decide +kernel) rfl (fun hc => ?_) (fun hc => ?_)
  · refine ms_bipush (n := (-2)) (v := (-2)) (p' := 16) (by decide +kernel) rfl ?_
    refine ms_istore_n (k := 2) (ls' := [.inr (.inl 223), .inl x1, .inl (-2), .inr (.inr (.inr 0)), .inr (.inr (.inr 0)), .inr (.inr (.inr 0))]) (p' := 17) (by decide +kernel) rfl (Nat.le_of_ble_eq_true rfl) rfl ?_
    refine ms_iconst (n := (-1)) (v := (-1)) (p' := 18) (by decide +kernel) rfl ?_
    refine ms_istore_n (k := 3) (ls' := [.inr (.inl 223), .inl x1, .inl (-2), .inl (-1), .inr (.inr (.inr 0)), .inr (.inr (.inr 0))]) (p' := 19) (by decide +kernel) rfl (Nat.le_of_ble_eq_true rfl) rfl ?_
    refine ms_iconst (n := 0) (v := 0) (p' := 20) (by decide +kernel) rfl ?_
    refine ms_istore (k := 4) (ls' := [.inr (.inl 223), .inl x1, .inl (-2), .inl (-1), .inl 0, .inr (.inr (.inr 0))]) (p' := 22) (by decide +kernel) rfl (Nat.le_of_ble_eq_true rfl) rfl ?_
    rfl
  · refine ms_iconst (n := (-1)) (v := (-1)) (p' := 13) (by decide +kernel) rfl ?_
    exact ms_iret (by decide +kernel)
theorem l_M_deepest_22 {sw : Bool} {w : mj_W} (hw : wk sw w) (f : mj_F) (x1 : Int) (x2 : Int) (x3 : Int) (x4 : Int) (u5 : mj_V)  : mj_run yM_deepest w f 22 [.inr (.inl 223), .inl x1, .inl x2, .inl x3, .inl x4, u5] [] = if (f 223 3) ≤ x4 then if x1 = 0 then some (w, f, some (.inl x2)) else if ¬ x2 = (-2) then some (w, f, some (.inl x3)) else some (w, f, some (.inl x2)) else mj_bi (mj_call yM_firstNode w f [.inr (.inl 223), .inl x4]) (fun f3 v4 => if ¬ v4 = (-2) then mj_bi (mj_call yM_firstNode w f3 [.inr (.inl 223), .inl x4]) (fun f5 v6 => mj_bi (mj_call yM_depth w f5 [.inr (.inl 223), .inl v6]) (fun f7 v8 => if x3 < v8 then mj_run yM_deepest w f7 22 [.inr (.inl 223), .inl x1, .inl x4, .inl v8, .inl (mj_w (x4 + 1)), .inl v8] [] else mj_run yM_deepest w f7 22 [.inr (.inl 223), .inl x1, .inl x2, .inl x3, .inl (mj_w (x4 + 1)), .inl v8] [])) else if x3 < (-1) then mj_run yM_deepest w f3 22 [.inr (.inl 223), .inl x1, .inl x4, .inl (-1), .inl (mj_w (x4 + 1)), .inl (-1)] [] else mj_run yM_deepest w f3 22 [.inr (.inl 223), .inl x1, .inl x2, .inl x3, .inl (mj_w (x4 + 1)), .inl (-1)] []) := by
  refine ms_iload (k := 4) (p' := 24) (by decide +kernel) rfl rfl ?_
  refine ms_aload_n (k := 0) (p' := 25) (by decide +kernel) rfl rfl ?_
  refine ms_geti (idx := 245) (ci := 9) (k := 3) (q := 1394) (p' := 28) (by decide +kernel) rfl (k_223 hw) ?_
  refine ms_icmp_ge (off := 51) (t := 79) (p' := 31) (by decide +kernel) rfl (fun hc => ?_) (fun hc => ?_)
  · refine ms_iload_n (k := 1) (p' := 80) (by decide +kernel) rfl rfl ?_
    refine ms_if_eq (off := 9) (t := 89) (p' := 83) (by decide +kernel) rfl (fun hc => ?_) (fun hc => ?_)
    · refine ms_iload_n (k := 2) (p' := 90) (by decide +kernel) rfl rfl ?_
      refine ms_goto (off := 4) (p' := 94) (by decide +kernel) ?_
      exact ms_iret (by decide +kernel)
    · refine ms_iload_n (k := 2) (p' := 84) (by decide +kernel) rfl rfl ?_
      refine ms_bipush (n := (-2)) (v := (-2)) (p' := 86) (by decide +kernel) rfl ?_
      refine ms_icmp_ne (off := 7) (t := 93) (p' := 89) (by decide +kernel) rfl (fun hc => ?_) (fun hc => ?_)
      · refine ms_iload_n (k := 3) (p' := 94) (by decide +kernel) rfl rfl ?_
        exact ms_iret (by decide +kernel)
      · refine ms_iload_n (k := 2) (p' := 90) (by decide +kernel) rfl rfl ?_
        refine ms_goto (off := 4) (p' := 94) (by decide +kernel) ?_
        exact ms_iret (by decide +kernel)
  · refine ms_aload_n (k := 0) (p' := 32) (by decide +kernel) rfl rfl ?_
    refine ms_iload (k := 4) (p' := 34) (by decide +kernel) rfl rfl ?_
    refine ms_virt_i (idx := 411) (cy := yM_firstNode) (n := 1) (a := 223) (as := [.inl x4]) (rest := []) (p' := 37) (by decide +kernel) rfl rfl rfl rfl (k_223 hw) rfl (fun f3 v4 => ?_)
    refine ms_bipush (n := (-2)) (v := (-2)) (p' := 39) (by decide +kernel) rfl ?_
    refine ms_icmp_ne (off := 7) (t := 46) (p' := 42) (by decide +kernel) rfl (fun hc => ?_) (fun hc => ?_)
    · refine ms_aload_n (k := 0) (p' := 47) (by decide +kernel) rfl rfl ?_
      refine ms_aload_n (k := 0) (p' := 48) (by decide +kernel) rfl rfl ?_
      refine ms_iload (k := 4) (p' := 50) (by decide +kernel) rfl rfl ?_
      refine ms_virt_i (idx := 411) (cy := yM_firstNode) (n := 1) (a := 223) (as := [.inl x4]) (rest := [.inr (.inl 223)]) (p' := 53) (by decide +kernel) rfl rfl rfl rfl (k_223 hw) rfl (fun f5 v6 => ?_)
      refine ms_virt_i (idx := 408) (cy := yM_depth) (n := 1) (a := 223) (as := [.inl v6]) (rest := []) (p' := 56) (by decide +kernel) rfl rfl rfl rfl (k_223 hw) rfl (fun f7 v8 => ?_)
      refine ms_istore (k := 5) (ls' := [.inr (.inl 223), .inl x1, .inl x2, .inl x3, .inl x4, .inl v8]) (p' := 58) (by decide +kernel) rfl (Nat.le_of_ble_eq_true rfl) rfl ?_
      refine ms_iload (k := 5) (p' := 60) (by decide +kernel) rfl rfl ?_
      refine ms_iload_n (k := 3) (p' := 61) (by decide +kernel) rfl rfl ?_
      refine ms_icmp_gt (off := 6) (t := 67) (p' := 64) (by decide +kernel) rfl (fun hc => ?_) (fun hc => ?_)
      · refine ms_iload (k := 4) (p' := 69) (by decide +kernel) rfl rfl ?_
        refine ms_istore_n (k := 2) (ls' := [.inr (.inl 223), .inl x1, .inl x4, .inl x3, .inl x4, .inl v8]) (p' := 70) (by decide +kernel) rfl (Nat.le_of_ble_eq_true rfl) rfl ?_
        refine ms_iload (k := 5) (p' := 72) (by decide +kernel) rfl rfl ?_
        refine ms_istore_n (k := 3) (ls' := [.inr (.inl 223), .inl x1, .inl x4, .inl v8, .inl x4, .inl v8]) (p' := 73) (by decide +kernel) rfl (Nat.le_of_ble_eq_true rfl) rfl ?_
        refine ms_iinc (k := 4) (n := 1) (ls' := [.inr (.inl 223), .inl x1, .inl x4, .inl v8, .inl (mj_w (x4 + 1)), .inl v8]) (p' := 76) (by decide +kernel) rfl rfl rfl ?_
        refine ms_goto (off := (-54)) (p' := 22) (by decide +kernel) ?_
        rfl
      · refine ms_goto (off := 9) (p' := 73) (by decide +kernel) ?_
        refine ms_iinc (k := 4) (n := 1) (ls' := [.inr (.inl 223), .inl x1, .inl x2, .inl x3, .inl (mj_w (x4 + 1)), .inl v8]) (p' := 76) (by decide +kernel) rfl rfl rfl ?_
        refine ms_goto (off := (-54)) (p' := 22) (by decide +kernel) ?_
        rfl
    · refine ms_iconst (n := (-1)) (v := (-1)) (p' := 43) (by decide +kernel) rfl ?_
      refine ms_goto (off := 13) (p' := 56) (by decide +kernel) ?_
      refine ms_istore (k := 5) (ls' := [.inr (.inl 223), .inl x1, .inl x2, .inl x3, .inl x4, .inl (-1)]) (p' := 58) (by decide +kernel) rfl (Nat.le_of_ble_eq_true rfl) rfl ?_
      refine ms_iload (k := 5) (p' := 60) (by decide +kernel) rfl rfl ?_
      refine ms_iload_n (k := 3) (p' := 61) (by decide +kernel) rfl rfl ?_
      refine ms_icmp_gt (off := 6) (t := 67) (p' := 64) (by decide +kernel) rfl (fun hc => ?_) (fun hc => ?_)
      · refine ms_iload (k := 4) (p' := 69) (by decide +kernel) rfl rfl ?_
        refine ms_istore_n (k := 2) (ls' := [.inr (.inl 223), .inl x1, .inl x4, .inl x3, .inl x4, .inl (-1)]) (p' := 70) (by decide +kernel) rfl (Nat.le_of_ble_eq_true rfl) rfl ?_
        refine ms_iload (k := 5) (p' := 72) (by decide +kernel) rfl rfl ?_
        refine ms_istore_n (k := 3) (ls' := [.inr (.inl 223), .inl x1, .inl x4, .inl (-1), .inl x4, .inl (-1)]) (p' := 73) (by decide +kernel) rfl (Nat.le_of_ble_eq_true rfl) rfl ?_
        refine ms_iinc (k := 4) (n := 1) (ls' := [.inr (.inl 223), .inl x1, .inl x4, .inl (-1), .inl (mj_w (x4 + 1)), .inl (-1)]) (p' := 76) (by decide +kernel) rfl rfl rfl ?_
        refine ms_goto (off := (-54)) (p' := 22) (by decide +kernel) ?_
        rfl
      · refine ms_goto (off := 9) (p' := 73) (by decide +kernel) ?_
        refine ms_iinc (k := 4) (n := 1) (ls' := [.inr (.inl 223), .inl x1, .inl x2, .inl x3, .inl (mj_w (x4 + 1)), .inl (-1)]) (p' := 76) (by decide +kernel) rfl rfl rfl ?_
        refine ms_goto (off := (-54)) (p' := 22) (by decide +kernel) ?_
        rfl
theorem c_M_hasWhen {sw : Bool} {w : mj_W} (hw : wk sw w) (f : mj_F) (x1 : Int) (x2 : Int)  : mj_call yM_hasWhen w f [.inr (.inl 223), .inl x1, .inl x2] = mj_run yM_hasWhen w f 5 [.inr (.inl 223), .inl x1, .inl x2, .inl (mj_w (6 * x1))] [] := by
  show mj_run yM_hasWhen w f 0 [.inr (.inl 223), .inl x1, .inl x2, .inr (.inr (.inr 0))] [] = _
  refine ms_bipush (n := 6) (v := 6) (p' := 2) (by decide +kernel) rfl ?_
  refine ms_iload_n (k := 1) (p' := 3) (by decide +kernel) rfl rfl ?_
  refine ms_imul (p' := 4) (by decide +kernel) rfl ?_
  refine ms_istore_n (k := 3) (ls' := [.inr (.inl 223), .inl x1, .inl x2, .inl (mj_w (6 * x1))]) (p' := 5) (by decide +kernel) rfl (Nat.le_of_ble_eq_true rfl) rfl ?_
  rfl
theorem l_M_hasWhen_5 {sw : Bool} {w : mj_W} (hw : wk sw w) (f : mj_F) (x1 : Int) (x2 : Int) (x3 : Int)  : mj_run yM_hasWhen w f 5 [.inr (.inl 223), .inl x1, .inl x2, .inl x3] [] = mj_gd (0 ≤ x1 ∧ x1 < ((24 : Nat) : Int)) (if (mj_w ((mj_w (6 * x1)) + (f 224 x1.toNat))) ≤ x3 then some (w, f, some (.inl 0)) else mj_gd (0 ≤ x3 ∧ x3 < ((144 : Nat) : Int)) (if ¬ (f 225 x3.toNat) = x2 then mj_run yM_hasWhen w f 5 [.inr (.inl 223), .inl x1, .inl x2, .inl (mj_w (x3 + 1))] [] else some (w, f, some (.inl 1)))) := by
  refine ms_iload_n (k := 3) (p' := 6) (by decide +kernel) rfl rfl ?_
  refine ms_bipush (n := 6) (v := 6) (p' := 8) (by decide +kernel) rfl ?_
  refine ms_iload_n (k := 1) (p' := 9) (by decide +kernel) rfl rfl ?_
  refine ms_imul (p' := 10) (by decide +kernel) rfl ?_
  refine ms_aload_n (k := 0) (p' := 11) (by decide +kernel) rfl rfl ?_
  refine ms_getr (idx := 13) (ci := 9) (k := 6) (q := 1397) (p' := 14) (by decide +kernel) rfl (k_223 hw) (r_223_6 hw) (by decide) ?_
  refine ms_iload_n (k := 1) (p' := 15) (by decide +kernel) rfl rfl ?_
  refine ms_iald (p' := 16) (by decide +kernel) rfl (k_224 hw) (fun hj1 => ?_)
  refine ms_iadd (p' := 17) (by decide +kernel) rfl ?_
  refine ms_icmp_ge (off := 21) (t := 38) (p' := 20) (by decide +kernel) rfl (fun hc => ?_) (fun hc => ?_)
  · refine ms_iconst (n := 0) (v := 0) (p' := 39) (by decide +kernel) rfl ?_
    exact (ms_zret (by decide +kernel)).trans (mj_gd_pos (by decide) _)
  · refine ms_aload_n (k := 0) (p' := 21) (by decide +kernel) rfl rfl ?_
    refine ms_getr (idx := 17) (ci := 9) (k := 7) (q := 1398) (p' := 24) (by decide +kernel) rfl (k_223 hw) (r_223_7 hw) (by decide) ?_
    refine ms_iload_n (k := 3) (p' := 25) (by decide +kernel) rfl rfl ?_
    refine ms_iald (p' := 26) (by decide +kernel) rfl (k_225 hw) (fun hj2 => ?_)
    refine ms_iload_n (k := 2) (p' := 27) (by decide +kernel) rfl rfl ?_
    refine ms_icmp_ne (off := 5) (t := 32) (p' := 30) (by decide +kernel) rfl (fun hc => ?_) (fun hc => ?_)
    · refine ms_iinc (k := 3) (n := 1) (ls' := [.inr (.inl 223), .inl x1, .inl x2, .inl (mj_w (x3 + 1))]) (p' := 35) (by decide +kernel) rfl rfl rfl ?_
      refine ms_goto (off := (-30)) (p' := 5) (by decide +kernel) ?_
      rfl
    · refine ms_iconst (n := 1) (v := 1) (p' := 31) (by decide +kernel) rfl ?_
      exact (ms_zret (by decide +kernel)).trans (mj_gd_pos (by decide) _)
theorem c_M_hasSet {sw : Bool} {w : mj_W} (hw : wk sw w) (f : mj_F) (x1 : Int) (x2 : Int)  : mj_call yM_hasSet w f [.inr (.inl 223), .inl x1, .inl x2] = mj_run yM_hasSet w f 4 [.inr (.inl 223), .inl x1, .inl x2, .inl (mj_w (4 * x1))] [] := by
  show mj_run yM_hasSet w f 0 [.inr (.inl 223), .inl x1, .inl x2, .inr (.inr (.inr 0))] [] = _
  refine ms_iconst (n := 4) (v := 4) (p' := 1) (by decide +kernel) rfl ?_
  refine ms_iload_n (k := 1) (p' := 2) (by decide +kernel) rfl rfl ?_
  refine ms_imul (p' := 3) (by decide +kernel) rfl ?_
  refine ms_istore_n (k := 3) (ls' := [.inr (.inl 223), .inl x1, .inl x2, .inl (mj_w (4 * x1))]) (p' := 4) (by decide +kernel) rfl (Nat.le_of_ble_eq_true rfl) rfl ?_
  rfl
theorem l_M_hasSet_4 {sw : Bool} {w : mj_W} (hw : wk sw w) (f : mj_F) (x1 : Int) (x2 : Int) (x3 : Int)  : mj_run yM_hasSet w f 4 [.inr (.inl 223), .inl x1, .inl x2, .inl x3] [] = mj_gd (0 ≤ x1 ∧ x1 < ((16 : Nat) : Int)) (if (mj_w ((mj_w (4 * x1)) + (f 230 x1.toNat))) ≤ x3 then some (w, f, some (.inl 0)) else mj_gd (0 ≤ x3 ∧ x3 < ((64 : Nat) : Int)) (if ¬ (f 231 x3.toNat) = x2 then mj_run yM_hasSet w f 4 [.inr (.inl 223), .inl x1, .inl x2, .inl (mj_w (x3 + 1))] [] else some (w, f, some (.inl 1)))) := by
  refine ms_iload_n (k := 3) (p' := 5) (by decide +kernel) rfl rfl ?_
  refine ms_iconst (n := 4) (v := 4) (p' := 6) (by decide +kernel) rfl ?_
  refine ms_iload_n (k := 1) (p' := 7) (by decide +kernel) rfl rfl ?_
  refine ms_imul (p' := 8) (by decide +kernel) rfl ?_
  refine ms_aload_n (k := 0) (p' := 9) (by decide +kernel) rfl rfl ?_
  refine ms_getr (idx := 32) (ci := 9) (k := 12) (q := 1403) (p' := 12) (by decide +kernel) rfl (k_223 hw) (r_223_12 hw) (by decide) ?_
  refine ms_iload_n (k := 1) (p' := 13) (by decide +kernel) rfl rfl ?_
  refine ms_iald (p' := 14) (by decide +kernel) rfl (k_230 hw) (fun hj1 => ?_)
  refine ms_iadd (p' := 15) (by decide +kernel) rfl ?_
  refine ms_icmp_ge (off := 21) (t := 36) (p' := 18) (by decide +kernel) rfl (fun hc => ?_) (fun hc => ?_)
  · refine ms_iconst (n := 0) (v := 0) (p' := 37) (by decide +kernel) rfl ?_
    exact (ms_zret (by decide +kernel)).trans (mj_gd_pos (by decide) _)
  · refine ms_aload_n (k := 0) (p' := 19) (by decide +kernel) rfl rfl ?_
    refine ms_getr (idx := 35) (ci := 9) (k := 13) (q := 1404) (p' := 22) (by decide +kernel) rfl (k_223 hw) (r_223_13 hw) (by decide) ?_
    refine ms_iload_n (k := 3) (p' := 23) (by decide +kernel) rfl rfl ?_
    refine ms_iald (p' := 24) (by decide +kernel) rfl (k_231 hw) (fun hj2 => ?_)
    refine ms_iload_n (k := 2) (p' := 25) (by decide +kernel) rfl rfl ?_
    refine ms_icmp_ne (off := 5) (t := 30) (p' := 28) (by decide +kernel) rfl (fun hc => ?_) (fun hc => ?_)
    · refine ms_iinc (k := 3) (n := 1) (ls' := [.inr (.inl 223), .inl x1, .inl x2, .inl (mj_w (x3 + 1))]) (p' := 33) (by decide +kernel) rfl rfl rfl ?_
      refine ms_goto (off := (-29)) (p' := 4) (by decide +kernel) ?_
      rfl
    · refine ms_iconst (n := 1) (v := 1) (p' := 29) (by decide +kernel) rfl ?_
      exact (ms_zret (by decide +kernel)).trans (mj_gd_pos (by decide) _)
theorem c_M_tells {sw : Bool} {w : mj_W} (hw : wk sw w) (f : mj_F) (x1 : Int) (x2 : Int)  : mj_call yM_tells w f [.inr (.inl 223), .inl x1, .inl x2] = mj_bi (mj_call yM_isClock w (mj_u f 223 0 0) [.inr (.inl 223), .inl x1]) (fun f1 v2 => if v2 = 0 then some (w, f1, some (.inl (-1))) else mj_bi (mj_call yM_isIn w f1 [.inl x2, .inl 0, .inl 2]) (fun f3 v4 => if ¬ v4 = 0 then mj_run yM_tells w f3 29 [.inr (.inl 223), .inl x1, .inl x2, .inl 0, .inl 0] [] else some (w, f3, some (.inl (-1))))) := by
  show mj_run yM_tells w f 0 [.inr (.inl 223), .inl x1, .inl x2, .inr (.inr (.inr 0)), .inr (.inr (.inr 0))] [] = _
  refine ms_aload_n (k := 0) (p' := 1) (by decide +kernel) rfl rfl ?_
  refine ms_iconst (n := 0) (v := 0) (p' := 2) (by decide +kernel) rfl ?_
  refine ms_puti (idx := 1) (ci := 9) (k := 0) (q := 1391) (p' := 5) (by decide +kernel) rfl (k_223 hw) ?_
  refine ms_aload_n (k := 0) (p' := 6) (by decide +kernel) rfl rfl ?_
  refine ms_iload_n (k := 1) (p' := 7) (by decide +kernel) rfl rfl ?_
  refine ms_virt_i (idx := 349) (cy := yM_isClock) (n := 1) (a := 223) (as := [.inl x1]) (rest := []) (p' := 10) (by decide +kernel) rfl rfl rfl rfl (k_223 hw) rfl (fun f1 v2 => ?_)
  refine ms_if_eq (off := 12) (t := 22) (p' := 13) (by decide +kernel) rfl (fun hc => ?_) (fun hc => ?_)
  · refine ms_iconst (n := (-1)) (v := (-1)) (p' := 23) (by decide +kernel) rfl ?_
    exact ms_iret (by decide +kernel)
  · refine ms_iload_n (k := 2) (p' := 14) (by decide +kernel) rfl rfl ?_
    refine ms_iconst (n := 0) (v := 0) (p' := 15) (by decide +kernel) rfl ?_
    refine ms_iconst (n := 2) (v := 2) (p' := 16) (by decide +kernel) rfl ?_
    refine ms_stat_i (idx := 158) (cy := yM_isIn) (n := 3) (as := [.inl x2, .inl 0, .inl 2]) (rest := []) (p' := 19) (by decide +kernel) rfl rfl rfl rfl rfl (fun f3 v4 => ?_)
    refine ms_if_ne (off := 5) (t := 24) (p' := 22) (by decide +kernel) rfl (fun hc => ?_) (fun hc => ?_)
    · refine ms_iconst (n := 0) (v := 0) (p' := 25) (by decide +kernel) rfl ?_
      refine ms_istore_n (k := 3) (ls' := [.inr (.inl 223), .inl x1, .inl x2, .inl 0, .inr (.inr (.inr 0))]) (p' := 26) (by decide +kernel) rfl (Nat.le_of_ble_eq_true rfl) rfl ?_
      refine ms_iconst (n := 0) (v := 0) (p' := 27) (by decide +kernel) rfl ?_
      refine ms_istore (k := 4) (ls' := [.inr (.inl 223), .inl x1, .inl x2, .inl 0, .inl 0]) (p' := 29) (by decide +kernel) rfl (Nat.le_of_ble_eq_true rfl) rfl ?_
      rfl
    · refine ms_iconst (n := (-1)) (v := (-1)) (p' := 23) (by decide +kernel) rfl ?_
      exact ms_iret (by decide +kernel)
theorem l_M_tells_29 {sw : Bool} {w : mj_W} (hw : wk sw w) (f : mj_F) (x1 : Int) (x2 : Int) (x3 : Int) (x4 : Int)  : mj_run yM_tells w f 29 [.inr (.inl 223), .inl x1, .inl x2, .inl x3, .inl x4] [] = if ¬ x2 = 2 then if (f 223 4) ≤ x4 then some (w, f, some (.inl x3)) else if ¬ x2 = 0 then if ¬ x2 = 1 then mj_bi (mj_call yM_hasWhen w f [.inr (.inl 223), .inl x4, .inl x1]) (fun f5 v6 => if v6 = 0 then mj_run yM_tells w f5 29 [.inr (.inl 223), .inl x1, .inl x2, .inl (mj_or x3 0), .inl (mj_w (x4 + 1))] [] else mj_run yM_tells w f5 29 [.inr (.inl 223), .inl x1, .inl x2, .inl (mj_or x3 (mj_shl 1 x4)), .inl (mj_w (x4 + 1))] []) else mj_bi (mj_call yM_hasSet w f [.inr (.inl 223), .inl x4, .inl x1]) (fun f7 v8 => if v8 = 0 then mj_run yM_tells w f7 29 [.inr (.inl 223), .inl x1, .inl x2, .inl (mj_or x3 0), .inl (mj_w (x4 + 1))] [] else mj_run yM_tells w f7 29 [.inr (.inl 223), .inl x1, .inl x2, .inl (mj_or x3 (mj_shl 1 x4)), .inl (mj_w (x4 + 1))] []) else mj_bi (mj_call yM_hasWhen w f [.inr (.inl 223), .inl (mj_w (8 + x4)), .inl x1]) (fun f9 v10 => if v10 = 0 then mj_run yM_tells w f9 29 [.inr (.inl 223), .inl x1, .inl x2, .inl (mj_or x3 0), .inl (mj_w (x4 + 1))] [] else mj_run yM_tells w f9 29 [.inr (.inl 223), .inl x1, .inl x2, .inl (mj_or x3 (mj_shl 1 x4)), .inl (mj_w (x4 + 1))] []) else if (f 223 3) ≤ x4 then some (w, f, some (.inl x3)) else if ¬ x2 = 0 then if ¬ x2 = 1 then mj_bi (mj_call yM_hasWhen w f [.inr (.inl 223), .inl x4, .inl x1]) (fun f11 v12 => if v12 = 0 then mj_run yM_tells w f11 29 [.inr (.inl 223), .inl x1, .inl x2, .inl (mj_or x3 0), .inl (mj_w (x4 + 1))] [] else mj_run yM_tells w f11 29 [.inr (.inl 223), .inl x1, .inl x2, .inl (mj_or x3 (mj_shl 1 x4)), .inl (mj_w (x4 + 1))] []) else mj_bi (mj_call yM_hasSet w f [.inr (.inl 223), .inl x4, .inl x1]) (fun f13 v14 => if v14 = 0 then mj_run yM_tells w f13 29 [.inr (.inl 223), .inl x1, .inl x2, .inl (mj_or x3 0), .inl (mj_w (x4 + 1))] [] else mj_run yM_tells w f13 29 [.inr (.inl 223), .inl x1, .inl x2, .inl (mj_or x3 (mj_shl 1 x4)), .inl (mj_w (x4 + 1))] []) else mj_bi (mj_call yM_hasWhen w f [.inr (.inl 223), .inl (mj_w (8 + x4)), .inl x1]) (fun f15 v16 => if v16 = 0 then mj_run yM_tells w f15 29 [.inr (.inl 223), .inl x1, .inl x2, .inl (mj_or x3 0), .inl (mj_w (x4 + 1))] [] else mj_run yM_tells w f15 29 [.inr (.inl 223), .inl x1, .inl x2, .inl (mj_or x3 (mj_shl 1 x4)), .inl (mj_w (x4 + 1))] []) := by
  refine ms_iload (k := 4) (p' := 31) (by decide +kernel) rfl rfl ?_
  refine ms_iload_n (k := 2) (p' := 32) (by decide +kernel) rfl rfl ?_
  refine ms_iconst (n := 2) (v := 2) (p' := 33) (by decide +kernel) rfl ?_
  refine ms_icmp_ne (off := 10) (t := 43) (p' := 36) (by decide +kernel) rfl (fun hc => ?_) (fun hc => ?_)
  · refine ms_aload_n (k := 0) (p' := 44) (by decide +kernel) rfl rfl ?_
    refine ms_geti (idx := 248) (ci := 9) (k := 4) (q := 1395) (p' := 47) (by decide +kernel) rfl (k_223 hw) ?_
    refine ms_icmp_ge (off := 68) (t := 115) (p' := 50) (by decide +kernel) rfl (fun hc => ?_) (fun hc => ?_)
    · refine ms_iload_n (k := 3) (p' := 116) (by decide +kernel) rfl rfl ?_
      exact ms_iret (by decide +kernel)
    · refine ms_iload_n (k := 3) (p' := 51) (by decide +kernel) rfl rfl ?_
      refine ms_iload_n (k := 2) (p' := 52) (by decide +kernel) rfl rfl ?_
      refine ms_if_ne (off := 19) (t := 71) (p' := 55) (by decide +kernel) rfl (fun hc => ?_) (fun hc => ?_)
      · refine ms_iload_n (k := 2) (p' := 72) (by decide +kernel) rfl rfl ?_
        refine ms_iconst (n := 1) (v := 1) (p' := 73) (by decide +kernel) rfl ?_
        refine ms_icmp_ne (off := 16) (t := 89) (p' := 76) (by decide +kernel) rfl (fun hc => ?_) (fun hc => ?_)
        · refine ms_aload_n (k := 0) (p' := 90) (by decide +kernel) rfl rfl ?_
          refine ms_iload (k := 4) (p' := 92) (by decide +kernel) rfl rfl ?_
          refine ms_iload_n (k := 1) (p' := 93) (by decide +kernel) rfl rfl ?_
          refine ms_virt_i (idx := 423) (cy := yM_hasWhen) (n := 2) (a := 223) (as := [.inl x4, .inl x1]) (rest := [.inl x3]) (p' := 96) (by decide +kernel) rfl rfl rfl rfl (k_223 hw) rfl (fun f5 v6 => ?_)
          refine ms_if_eq (off := 10) (t := 106) (p' := 99) (by decide +kernel) rfl (fun hc => ?_) (fun hc => ?_)
          · refine ms_iconst (n := 0) (v := 0) (p' := 107) (by decide +kernel) rfl ?_
            refine ms_ior (p' := 108) (by decide +kernel) rfl ?_
            refine ms_istore_n (k := 3) (ls' := [.inr (.inl 223), .inl x1, .inl x2, .inl (mj_or x3 0), .inl x4]) (p' := 109) (by decide +kernel) rfl (Nat.le_of_ble_eq_true rfl) rfl ?_
            refine ms_iinc (k := 4) (n := 1) (ls' := [.inr (.inl 223), .inl x1, .inl x2, .inl (mj_or x3 0), .inl (mj_w (x4 + 1))]) (p' := 112) (by decide +kernel) rfl rfl rfl ?_
            refine ms_goto (off := (-83)) (p' := 29) (by decide +kernel) ?_
            rfl
          · refine ms_iconst (n := 1) (v := 1) (p' := 100) (by decide +kernel) rfl ?_
            refine ms_iload (k := 4) (p' := 102) (by decide +kernel) rfl rfl ?_
            refine ms_ishl (p' := 103) (by decide +kernel) rfl ?_
            refine ms_goto (off := 4) (p' := 107) (by decide +kernel) ?_
            refine ms_ior (p' := 108) (by decide +kernel) rfl ?_
            refine ms_istore_n (k := 3) (ls' := [.inr (.inl 223), .inl x1, .inl x2, .inl (mj_or x3 (mj_shl 1 x4)), .inl x4]) (p' := 109) (by decide +kernel) rfl (Nat.le_of_ble_eq_true rfl) rfl ?_
            refine ms_iinc (k := 4) (n := 1) (ls' := [.inr (.inl 223), .inl x1, .inl x2, .inl (mj_or x3 (mj_shl 1 x4)), .inl (mj_w (x4 + 1))]) (p' := 112) (by decide +kernel) rfl rfl rfl ?_
            refine ms_goto (off := (-83)) (p' := 29) (by decide +kernel) ?_
            rfl
        · refine ms_aload_n (k := 0) (p' := 77) (by decide +kernel) rfl rfl ?_
          refine ms_iload (k := 4) (p' := 79) (by decide +kernel) rfl rfl ?_
          refine ms_iload_n (k := 1) (p' := 80) (by decide +kernel) rfl rfl ?_
          refine ms_virt_i (idx := 426) (cy := yM_hasSet) (n := 2) (a := 223) (as := [.inl x4, .inl x1]) (rest := [.inl x3]) (p' := 83) (by decide +kernel) rfl rfl rfl rfl (k_223 hw) rfl (fun f7 v8 => ?_)
          refine ms_if_eq (off := 23) (t := 106) (p' := 86) (by decide +kernel) rfl (fun hc => ?_) (fun hc => ?_)
          · refine ms_iconst (n := 0) (v := 0) (p' := 107) (by decide +kernel) rfl ?_
            refine ms_ior (p' := 108) (by decide +kernel) rfl ?_
            refine ms_istore_n (k := 3) (ls' := [.inr (.inl 223), .inl x1, .inl x2, .inl (mj_or x3 0), .inl x4]) (p' := 109) (by decide +kernel) rfl (Nat.le_of_ble_eq_true rfl) rfl ?_
            refine ms_iinc (k := 4) (n := 1) (ls' := [.inr (.inl 223), .inl x1, .inl x2, .inl (mj_or x3 0), .inl (mj_w (x4 + 1))]) (p' := 112) (by decide +kernel) rfl rfl rfl ?_
            refine ms_goto (off := (-83)) (p' := 29) (by decide +kernel) ?_
            rfl
          · refine ms_goto (off := 13) (p' := 99) (by decide +kernel) ?_
            refine ms_iconst (n := 1) (v := 1) (p' := 100) (by decide +kernel) rfl ?_
            refine ms_iload (k := 4) (p' := 102) (by decide +kernel) rfl rfl ?_
            refine ms_ishl (p' := 103) (by decide +kernel) rfl ?_
            refine ms_goto (off := 4) (p' := 107) (by decide +kernel) ?_
            refine ms_ior (p' := 108) (by decide +kernel) rfl ?_
            refine ms_istore_n (k := 3) (ls' := [.inr (.inl 223), .inl x1, .inl x2, .inl (mj_or x3 (mj_shl 1 x4)), .inl x4]) (p' := 109) (by decide +kernel) rfl (Nat.le_of_ble_eq_true rfl) rfl ?_
            refine ms_iinc (k := 4) (n := 1) (ls' := [.inr (.inl 223), .inl x1, .inl x2, .inl (mj_or x3 (mj_shl 1 x4)), .inl (mj_w (x4 + 1))]) (p' := 112) (by decide +kernel) rfl rfl rfl ?_
            refine ms_goto (off := (-83)) (p' := 29) (by decide +kernel) ?_
            rfl
      · refine ms_aload_n (k := 0) (p' := 56) (by decide +kernel) rfl rfl ?_
        refine ms_bipush (n := 8) (v := 8) (p' := 58) (by decide +kernel) rfl ?_
        refine ms_iload (k := 4) (p' := 60) (by decide +kernel) rfl rfl ?_
        refine ms_iadd (p' := 61) (by decide +kernel) rfl ?_
        refine ms_iload_n (k := 1) (p' := 62) (by decide +kernel) rfl rfl ?_
        refine ms_virt_i (idx := 423) (cy := yM_hasWhen) (n := 2) (a := 223) (as := [.inl (mj_w (8 + x4)), .inl x1]) (rest := [.inl x3]) (p' := 65) (by decide +kernel) rfl rfl rfl rfl (k_223 hw) rfl (fun f9 v10 => ?_)
        refine ms_if_eq (off := 41) (t := 106) (p' := 68) (by decide +kernel) rfl (fun hc => ?_) (fun hc => ?_)
        · refine ms_iconst (n := 0) (v := 0) (p' := 107) (by decide +kernel) rfl ?_
          refine ms_ior (p' := 108) (by decide +kernel) rfl ?_
          refine ms_istore_n (k := 3) (ls' := [.inr (.inl 223), .inl x1, .inl x2, .inl (mj_or x3 0), .inl x4]) (p' := 109) (by decide +kernel) rfl (Nat.le_of_ble_eq_true rfl) rfl ?_
          refine ms_iinc (k := 4) (n := 1) (ls' := [.inr (.inl 223), .inl x1, .inl x2, .inl (mj_or x3 0), .inl (mj_w (x4 + 1))]) (p' := 112) (by decide +kernel) rfl rfl rfl ?_
          refine ms_goto (off := (-83)) (p' := 29) (by decide +kernel) ?_
          rfl
        · refine ms_goto (off := 31) (p' := 99) (by decide +kernel) ?_
          refine ms_iconst (n := 1) (v := 1) (p' := 100) (by decide +kernel) rfl ?_
          refine ms_iload (k := 4) (p' := 102) (by decide +kernel) rfl rfl ?_
          refine ms_ishl (p' := 103) (by decide +kernel) rfl ?_
          refine ms_goto (off := 4) (p' := 107) (by decide +kernel) ?_
          refine ms_ior (p' := 108) (by decide +kernel) rfl ?_
          refine ms_istore_n (k := 3) (ls' := [.inr (.inl 223), .inl x1, .inl x2, .inl (mj_or x3 (mj_shl 1 x4)), .inl x4]) (p' := 109) (by decide +kernel) rfl (Nat.le_of_ble_eq_true rfl) rfl ?_
          refine ms_iinc (k := 4) (n := 1) (ls' := [.inr (.inl 223), .inl x1, .inl x2, .inl (mj_or x3 (mj_shl 1 x4)), .inl (mj_w (x4 + 1))]) (p' := 112) (by decide +kernel) rfl rfl rfl ?_
          refine ms_goto (off := (-83)) (p' := 29) (by decide +kernel) ?_
          rfl
  · refine ms_aload_n (k := 0) (p' := 37) (by decide +kernel) rfl rfl ?_
    refine ms_geti (idx := 245) (ci := 9) (k := 3) (q := 1394) (p' := 40) (by decide +kernel) rfl (k_223 hw) ?_
    refine ms_goto (off := 7) (p' := 47) (by decide +kernel) ?_
    refine ms_icmp_ge (off := 68) (t := 115) (p' := 50) (by decide +kernel) rfl (fun hc => ?_) (fun hc => ?_)
    · refine ms_iload_n (k := 3) (p' := 116) (by decide +kernel) rfl rfl ?_
      exact ms_iret (by decide +kernel)
    · refine ms_iload_n (k := 3) (p' := 51) (by decide +kernel) rfl rfl ?_
      refine ms_iload_n (k := 2) (p' := 52) (by decide +kernel) rfl rfl ?_
      refine ms_if_ne (off := 19) (t := 71) (p' := 55) (by decide +kernel) rfl (fun hc => ?_) (fun hc => ?_)
      · refine ms_iload_n (k := 2) (p' := 72) (by decide +kernel) rfl rfl ?_
        refine ms_iconst (n := 1) (v := 1) (p' := 73) (by decide +kernel) rfl ?_
        refine ms_icmp_ne (off := 16) (t := 89) (p' := 76) (by decide +kernel) rfl (fun hc => ?_) (fun hc => ?_)
        · refine ms_aload_n (k := 0) (p' := 90) (by decide +kernel) rfl rfl ?_
          refine ms_iload (k := 4) (p' := 92) (by decide +kernel) rfl rfl ?_
          refine ms_iload_n (k := 1) (p' := 93) (by decide +kernel) rfl rfl ?_
          refine ms_virt_i (idx := 423) (cy := yM_hasWhen) (n := 2) (a := 223) (as := [.inl x4, .inl x1]) (rest := [.inl x3]) (p' := 96) (by decide +kernel) rfl rfl rfl rfl (k_223 hw) rfl (fun f11 v12 => ?_)
          refine ms_if_eq (off := 10) (t := 106) (p' := 99) (by decide +kernel) rfl (fun hc => ?_) (fun hc => ?_)
          · refine ms_iconst (n := 0) (v := 0) (p' := 107) (by decide +kernel) rfl ?_
            refine ms_ior (p' := 108) (by decide +kernel) rfl ?_
            refine ms_istore_n (k := 3) (ls' := [.inr (.inl 223), .inl x1, .inl x2, .inl (mj_or x3 0), .inl x4]) (p' := 109) (by decide +kernel) rfl (Nat.le_of_ble_eq_true rfl) rfl ?_
            refine ms_iinc (k := 4) (n := 1) (ls' := [.inr (.inl 223), .inl x1, .inl x2, .inl (mj_or x3 0), .inl (mj_w (x4 + 1))]) (p' := 112) (by decide +kernel) rfl rfl rfl ?_
            refine ms_goto (off := (-83)) (p' := 29) (by decide +kernel) ?_
            rfl
          · refine ms_iconst (n := 1) (v := 1) (p' := 100) (by decide +kernel) rfl ?_
            refine ms_iload (k := 4) (p' := 102) (by decide +kernel) rfl rfl ?_
            refine ms_ishl (p' := 103) (by decide +kernel) rfl ?_
            refine ms_goto (off := 4) (p' := 107) (by decide +kernel) ?_
            refine ms_ior (p' := 108) (by decide +kernel) rfl ?_
            refine ms_istore_n (k := 3) (ls' := [.inr (.inl 223), .inl x1, .inl x2, .inl (mj_or x3 (mj_shl 1 x4)), .inl x4]) (p' := 109) (by decide +kernel) rfl (Nat.le_of_ble_eq_true rfl) rfl ?_
            refine ms_iinc (k := 4) (n := 1) (ls' := [.inr (.inl 223), .inl x1, .inl x2, .inl (mj_or x3 (mj_shl 1 x4)), .inl (mj_w (x4 + 1))]) (p' := 112) (by decide +kernel) rfl rfl rfl ?_
            refine ms_goto (off := (-83)) (p' := 29) (by decide +kernel) ?_
            rfl
        · refine ms_aload_n (k := 0) (p' := 77) (by decide +kernel) rfl rfl ?_
          refine ms_iload (k := 4) (p' := 79) (by decide +kernel) rfl rfl ?_
          refine ms_iload_n (k := 1) (p' := 80) (by decide +kernel) rfl rfl ?_
          refine ms_virt_i (idx := 426) (cy := yM_hasSet) (n := 2) (a := 223) (as := [.inl x4, .inl x1]) (rest := [.inl x3]) (p' := 83) (by decide +kernel) rfl rfl rfl rfl (k_223 hw) rfl (fun f13 v14 => ?_)
          refine ms_if_eq (off := 23) (t := 106) (p' := 86) (by decide +kernel) rfl (fun hc => ?_) (fun hc => ?_)
          · refine ms_iconst (n := 0) (v := 0) (p' := 107) (by decide +kernel) rfl ?_
            refine ms_ior (p' := 108) (by decide +kernel) rfl ?_
            refine ms_istore_n (k := 3) (ls' := [.inr (.inl 223), .inl x1, .inl x2, .inl (mj_or x3 0), .inl x4]) (p' := 109) (by decide +kernel) rfl (Nat.le_of_ble_eq_true rfl) rfl ?_
            refine ms_iinc (k := 4) (n := 1) (ls' := [.inr (.inl 223), .inl x1, .inl x2, .inl (mj_or x3 0), .inl (mj_w (x4 + 1))]) (p' := 112) (by decide +kernel) rfl rfl rfl ?_
            refine ms_goto (off := (-83)) (p' := 29) (by decide +kernel) ?_
            rfl
          · refine ms_goto (off := 13) (p' := 99) (by decide +kernel) ?_
            refine ms_iconst (n := 1) (v := 1) (p' := 100) (by decide +kernel) rfl ?_
            refine ms_iload (k := 4) (p' := 102) (by decide +kernel) rfl rfl ?_
            refine ms_ishl (p' := 103) (by decide +kernel) rfl ?_
            refine ms_goto (off := 4) (p' := 107) (by decide +kernel) ?_
            refine ms_ior (p' := 108) (by decide +kernel) rfl ?_
            refine ms_istore_n (k := 3) (ls' := [.inr (.inl 223), .inl x1, .inl x2, .inl (mj_or x3 (mj_shl 1 x4)), .inl x4]) (p' := 109) (by decide +kernel) rfl (Nat.le_of_ble_eq_true rfl) rfl ?_
            refine ms_iinc (k := 4) (n := 1) (ls' := [.inr (.inl 223), .inl x1, .inl x2, .inl (mj_or x3 (mj_shl 1 x4)), .inl (mj_w (x4 + 1))]) (p' := 112) (by decide +kernel) rfl rfl rfl ?_
            refine ms_goto (off := (-83)) (p' := 29) (by decide +kernel) ?_
            rfl
      · refine ms_aload_n (k := 0) (p' := 56) (by decide +kernel) rfl rfl ?_
        refine ms_bipush (n := 8) (v := 8) (p' := 58) (by decide +kernel) rfl ?_
        refine ms_iload (k := 4) (p' := 60) (by decide +kernel) rfl rfl ?_
        refine ms_iadd (p' := 61) (by decide +kernel) rfl ?_
        refine ms_iload_n (k := 1) (p' := 62) (by decide +kernel) rfl rfl ?_
        refine ms_virt_i (idx := 423) (cy := yM_hasWhen) (n := 2) (a := 223) (as := [.inl (mj_w (8 + x4)), .inl x1]) (rest := [.inl x3]) (p' := 65) (by decide +kernel) rfl rfl rfl rfl (k_223 hw) rfl (fun f15 v16 => ?_)
        refine ms_if_eq (off := 41) (t := 106) (p' := 68) (by decide +kernel) rfl (fun hc => ?_) (fun hc => ?_)
        · refine ms_iconst (n := 0) (v := 0) (p' := 107) (by decide +kernel) rfl ?_
          refine ms_ior (p' := 108) (by decide +kernel) rfl ?_
          refine ms_istore_n (k := 3) (ls' := [.inr (.inl 223), .inl x1, .inl x2, .inl (mj_or x3 0), .inl x4]) (p' := 109) (by decide +kernel) rfl (Nat.le_of_ble_eq_true rfl) rfl ?_
          refine ms_iinc (k := 4) (n := 1) (ls' := [.inr (.inl 223), .inl x1, .inl x2, .inl (mj_or x3 0), .inl (mj_w (x4 + 1))]) (p' := 112) (by decide +kernel) rfl rfl rfl ?_
          refine ms_goto (off := (-83)) (p' := 29) (by decide +kernel) ?_
          rfl
        · refine ms_goto (off := 31) (p' := 99) (by decide +kernel) ?_
          refine ms_iconst (n := 1) (v := 1) (p' := 100) (by decide +kernel) rfl ?_
          refine ms_iload (k := 4) (p' := 102) (by decide +kernel) rfl rfl ?_
          refine ms_ishl (p' := 103) (by decide +kernel) rfl ?_
          refine ms_goto (off := 4) (p' := 107) (by decide +kernel) ?_
          refine ms_ior (p' := 108) (by decide +kernel) rfl ?_
          refine ms_istore_n (k := 3) (ls' := [.inr (.inl 223), .inl x1, .inl x2, .inl (mj_or x3 (mj_shl 1 x4)), .inl x4]) (p' := 109) (by decide +kernel) rfl (Nat.le_of_ble_eq_true rfl) rfl ?_
          refine ms_iinc (k := 4) (n := 1) (ls' := [.inr (.inl 223), .inl x1, .inl x2, .inl (mj_or x3 (mj_shl 1 x4)), .inl (mj_w (x4 + 1))]) (p' := 112) (by decide +kernel) rfl rfl rfl ?_
          refine ms_goto (off := (-83)) (p' := 29) (by decide +kernel) ?_
          rfl
theorem c_M_single {sw : Bool} {w : mj_W} (hw : wk sw w) (f : mj_F) (x1 : Int)  : mj_call yM_single w f [.inr (.inl 223), .inl x1] = mj_bi (mj_call yM_isTable w (mj_u f 223 0 0) [.inl x1]) (fun f1 v2 => if ¬ v2 = 0 then mj_bu (mj_call yM_loads w f1 [.inr (.inl 223), .inl x1]) (fun f3 => if (f3 223 53) = 0 then mj_run yM_single w f3 33 [.inr (.inl 223), .inl x1, .inl 0, .inl 0] [] else some (w, f3, some (.inl (-2)))) else some (w, f1, some (.inl (-1)))) := by
  show mj_run yM_single w f 0 [.inr (.inl 223), .inl x1, .inr (.inr (.inr 0)), .inr (.inr (.inr 0))] [] = _
  refine ms_aload_n (k := 0) (p' := 1) (by decide +kernel) rfl rfl ?_
  refine ms_iconst (n := 0) (v := 0) (p' := 2) (by decide +kernel) rfl ?_
  refine ms_puti (idx := 1) (ci := 9) (k := 0) (q := 1391) (p' := 5) (by decide +kernel) rfl (k_223 hw) ?_
  refine ms_iload_n (k := 1) (p' := 6) (by decide +kernel) rfl rfl ?_
  refine ms_stat_i (idx := 327) (cy := yM_isTable) (n := 1) (as := [.inl x1]) (rest := []) (p' := 9) (by decide +kernel) rfl rfl rfl rfl rfl (fun f1 v2 => ?_)
  refine ms_if_ne (off := 5) (t := 14) (p' := 12) (by decide +kernel) rfl (fun hc => ?_) (fun hc => ?_)
  · refine ms_aload_n (k := 0) (p' := 15) (by decide +kernel) rfl rfl ?_
    refine ms_iload_n (k := 1) (p' := 16) (by decide +kernel) rfl rfl ?_
    refine ms_virt_u (idx := 340) (cy := yM_loads) (n := 1) (a := 223) (as := [.inl x1]) (rest := []) (p' := 19) (by decide +kernel) rfl rfl rfl rfl (k_223 hw) rfl (fun f3 => ?_)
    refine ms_aload_n (k := 0) (p' := 20) (by decide +kernel) rfl rfl ?_
    refine ms_geti (idx := 289) (ci := 9) (k := 53) (q := 1444) (p' := 23) (by decide +kernel) rfl (k_223 hw) ?_
    refine ms_if_eq (off := 6) (t := 29) (p' := 26) (by decide +kernel) rfl (fun hc => ?_) (fun hc => ?_)
    · refine ms_iconst (n := 0) (v := 0) (p' := 30) (by decide +kernel) rfl ?_
      refine ms_istore_n (k := 2) (ls' := [.inr (.inl 223), .inl x1, .inl 0, .inr (.inr (.inr 0))]) (p' := 31) (by decide +kernel) rfl (Nat.le_of_ble_eq_true rfl) rfl ?_
      refine ms_iconst (n := 0) (v := 0) (p' := 32) (by decide +kernel) rfl ?_
      refine ms_istore_n (k := 3) (ls' := [.inr (.inl 223), .inl x1, .inl 0, .inl 0]) (p' := 33) (by decide +kernel) rfl (Nat.le_of_ble_eq_true rfl) rfl ?_
      rfl
    · refine ms_bipush (n := (-2)) (v := (-2)) (p' := 28) (by decide +kernel) rfl ?_
      exact ms_iret (by decide +kernel)
  · refine ms_iconst (n := (-1)) (v := (-1)) (p' := 13) (by decide +kernel) rfl ?_
    exact ms_iret (by decide +kernel)
theorem l_M_single_33 {sw : Bool} {w : mj_W} (hw : wk sw w) (f : mj_F) (x1 : Int) (x2 : Int) (x3 : Int)  : mj_run yM_single w f 33 [.inr (.inl 223), .inl x1, .inl x2, .inl x3] [] = if (f 223 2) ≤ x3 then some (w, f, some (.inl x2)) else mj_bi (mj_call yM_get w f [.inr (.inl 223), .inl (mj_w (x3 + 1)), .inl 0]) (fun f4 v5 => mj_bi (mj_call yM_get w f4 [.inr (.inl 223), .inl 0, .inl (mj_w (x3 + 1))]) (fun f6 v7 => mj_bi (mj_call yM_plus w f6 [.inl v5, .inl v7]) (fun f8 v9 => if ¬ v9 = 1 then mj_run yM_single w f8 33 [.inr (.inl 223), .inl x1, .inl (mj_or x2 0), .inl (mj_w (x3 + 1))] [] else mj_run yM_single w f8 33 [.inr (.inl 223), .inl x1, .inl (mj_or x2 (mj_shl 1 x3)), .inl (mj_w (x3 + 1))] []))) := by
  refine ms_iload_n (k := 3) (p' := 34) (by decide +kernel) rfl rfl ?_
  refine ms_aload_n (k := 0) (p' := 35) (by decide +kernel) rfl rfl ?_
  refine ms_geti (idx := 242) (ci := 9) (k := 2) (q := 1393) (p' := 38) (by decide +kernel) rfl (k_223 hw) ?_
  refine ms_icmp_ge (off := 42) (t := 80) (p' := 41) (by decide +kernel) rfl (fun hc => ?_) (fun hc => ?_)
  · refine ms_iload_n (k := 2) (p' := 81) (by decide +kernel) rfl rfl ?_
    exact ms_iret (by decide +kernel)
  · refine ms_iload_n (k := 2) (p' := 42) (by decide +kernel) rfl rfl ?_
    refine ms_aload_n (k := 0) (p' := 43) (by decide +kernel) rfl rfl ?_
    refine ms_iload_n (k := 3) (p' := 44) (by decide +kernel) rfl rfl ?_
    refine ms_iconst (n := 1) (v := 1) (p' := 45) (by decide +kernel) rfl ?_
    refine ms_iadd (p' := 46) (by decide +kernel) rfl ?_
    refine ms_iconst (n := 0) (v := 0) (p' := 47) (by decide +kernel) rfl ?_
    refine ms_virt_i (idx := 272) (cy := yM_get) (n := 2) (a := 223) (as := [.inl (mj_w (x3 + 1)), .inl 0]) (rest := [.inl x2]) (p' := 50) (by decide +kernel) rfl rfl rfl rfl (k_223 hw) rfl (fun f4 v5 => ?_)
    refine ms_aload_n (k := 0) (p' := 51) (by decide +kernel) rfl rfl ?_
    refine ms_iconst (n := 0) (v := 0) (p' := 52) (by decide +kernel) rfl ?_
    refine ms_iload_n (k := 3) (p' := 53) (by decide +kernel) rfl rfl ?_
    refine ms_iconst (n := 1) (v := 1) (p' := 54) (by decide +kernel) rfl ?_
    refine ms_iadd (p' := 55) (by decide +kernel) rfl ?_
    refine ms_virt_i (idx := 272) (cy := yM_get) (n := 2) (a := 223) (as := [.inl 0, .inl (mj_w (x3 + 1))]) (rest := [.inl v5, .inl x2]) (p' := 58) (by decide +kernel) rfl rfl rfl rfl (k_223 hw) rfl (fun f6 v7 => ?_)
    refine ms_stat_i (idx := 283) (cy := yM_plus) (n := 2) (as := [.inl v5, .inl v7]) (rest := [.inl x2]) (p' := 61) (by decide +kernel) rfl rfl rfl rfl rfl (fun f8 v9 => ?_)
    refine ms_iconst (n := 1) (v := 1) (p' := 62) (by decide +kernel) rfl ?_
    refine ms_icmp_ne (off := 9) (t := 71) (p' := 65) (by decide +kernel) rfl (fun hc => ?_) (fun hc => ?_)
    · refine ms_iconst (n := 0) (v := 0) (p' := 72) (by decide +kernel) rfl ?_
      refine ms_ior (p' := 73) (by decide +kernel) rfl ?_
      refine ms_istore_n (k := 2) (ls' := [.inr (.inl 223), .inl x1, .inl (mj_or x2 0), .inl x3]) (p' := 74) (by decide +kernel) rfl (Nat.le_of_ble_eq_true rfl) rfl ?_
      refine ms_iinc (k := 3) (n := 1) (ls' := [.inr (.inl 223), .inl x1, .inl (mj_or x2 0), .inl (mj_w (x3 + 1))]) (p' := 77) (by decide +kernel) rfl rfl rfl ?_
      refine ms_goto (off := (-44)) (p' := 33) (by decide +kernel) ?_
      rfl
    · refine ms_iconst (n := 1) (v := 1) (p' := 66) (by decide +kernel) rfl ?_
      refine ms_iload_n (k := 3) (p' := 67) (by decide +kernel) rfl rfl ?_
      refine ms_ishl (p' := 68) (by decide +kernel) rfl ?_
      refine ms_goto (off := 4) (p' := 72) (by decide +kernel) ?_
      refine ms_ior (p' := 73) (by decide +kernel) rfl ?_
      refine ms_istore_n (k := 2) (ls' := [.inr (.inl 223), .inl x1, .inl (mj_or x2 (mj_shl 1 x3)), .inl x3]) (p' := 74) (by decide +kernel) rfl (Nat.le_of_ble_eq_true rfl) rfl ?_
      refine ms_iinc (k := 3) (n := 1) (ls' := [.inr (.inl 223), .inl x1, .inl (mj_or x2 (mj_shl 1 x3)), .inl (mj_w (x3 + 1))]) (p' := 77) (by decide +kernel) rfl rfl rfl ?_
      refine ms_goto (off := (-44)) (p' := 33) (by decide +kernel) ?_
      rfl
theorem c_M_count {sw : Bool} {w : mj_W} (hw : wk sw w) (f : mj_F) (x1 : Int)  : mj_call yM_count w f [.inr (.inl 223), .inl x1] = if x1 = 0 then some (w, (mj_u f 223 0 0), some (.inl (mj_u f 223 0 0 223 1))) else if x1 = 1 then some (w, (mj_u f 223 0 0), some (.inl (mj_u f 223 0 0 223 2))) else if x1 = 2 then some (w, (mj_u f 223 0 0), some (.inl (mj_u f 223 0 0 223 3))) else if x1 = 3 then some (w, (mj_u f 223 0 0), some (.inl (mj_u f 223 0 0 223 4))) else if x1 = 4 then if ¬ (mj_u f 223 0 0 223 3) = 0 then some (w, (mj_u f 223 0 0), some (.inl (mj_u f 223 0 0 223 5))) else some (w, (mj_u f 223 0 0), some (.inl (-1))) else if x1 = 5 then mj_bi (mj_call yM_traced w (mj_u f 223 0 0) [.inr (.inl 223)]) (fun f1 v2 => some (w, f1, some (.inl v2))) else if x1 = 6 then some (w, (mj_u f 223 0 0), some (.inl (mj_u f 223 0 0 223 18))) else if x1 = 7 then some (w, (mj_u f 223 0 0), some (.inl (mj_u f 223 0 0 223 25))) else some (w, (mj_u f 223 0 0), some (.inl (-1))) := by
  show mj_run yM_count w f 0 [.inr (.inl 223), .inl x1] [] = _
  refine ms_aload_n (k := 0) (p' := 1) (by decide +kernel) rfl rfl ?_
  refine ms_iconst (n := 0) (v := 0) (p' := 2) (by decide +kernel) rfl ?_
  refine ms_puti (idx := 1) (ci := 9) (k := 0) (q := 1391) (p' := 5) (by decide +kernel) rfl (k_223 hw) ?_
  refine ms_iload_n (k := 1) (p' := 6) (by decide +kernel) rfl rfl ?_
  have hd : mj_dec yM_count 6 = some (.tableswitch 97 0 7 #[46, 51, 56, 61, 66, 82, 87, 92]) := by decide +kernel
  by_cases hs0 : x1 = 0
  · rw [if_pos hs0]
    refine ms_tabIn (t := 52) hd (by omega) (by rw [hs0]; decide +kernel) ?_
    refine ms_aload_n (k := 0) (p' := 53) (by decide +kernel) rfl rfl ?_
    refine ms_geti (idx := 239) (ci := 9) (k := 1) (q := 1392) (p' := 56) (by decide +kernel) rfl (k_223 hw) ?_
    exact ms_iret (by decide +kernel)
  · rw [if_neg hs0]
    by_cases hs1 : x1 = 1
    · rw [if_pos hs1]
      refine ms_tabIn (t := 57) hd (by omega) (by rw [hs1]; decide +kernel) ?_
      refine ms_aload_n (k := 0) (p' := 58) (by decide +kernel) rfl rfl ?_
      refine ms_geti (idx := 242) (ci := 9) (k := 2) (q := 1393) (p' := 61) (by decide +kernel) rfl (k_223 hw) ?_
      exact ms_iret (by decide +kernel)
    · rw [if_neg hs1]
      by_cases hs2 : x1 = 2
      · rw [if_pos hs2]
        refine ms_tabIn (t := 62) hd (by omega) (by rw [hs2]; decide +kernel) ?_
        refine ms_aload_n (k := 0) (p' := 63) (by decide +kernel) rfl rfl ?_
        refine ms_geti (idx := 245) (ci := 9) (k := 3) (q := 1394) (p' := 66) (by decide +kernel) rfl (k_223 hw) ?_
        exact ms_iret (by decide +kernel)
      · rw [if_neg hs2]
        by_cases hs3 : x1 = 3
        · rw [if_pos hs3]
          refine ms_tabIn (t := 67) hd (by omega) (by rw [hs3]; decide +kernel) ?_
          refine ms_aload_n (k := 0) (p' := 68) (by decide +kernel) rfl rfl ?_
          refine ms_geti (idx := 248) (ci := 9) (k := 4) (q := 1395) (p' := 71) (by decide +kernel) rfl (k_223 hw) ?_
          exact ms_iret (by decide +kernel)
        · rw [if_neg hs3]
          by_cases hs4 : x1 = 4
          · rw [if_pos hs4]
            refine ms_tabIn (t := 72) hd (by omega) (by rw [hs4]; decide +kernel) ?_
            refine ms_aload_n (k := 0) (p' := 73) (by decide +kernel) rfl rfl ?_
            refine ms_geti (idx := 245) (ci := 9) (k := 3) (q := 1394) (p' := 76) (by decide +kernel) rfl (k_223 hw) ?_
            refine ms_if_ne (off := 7) (t := 83) (p' := 79) (by decide +kernel) rfl (fun hc => ?_) (fun hc => ?_)
            · refine ms_aload_n (k := 0) (p' := 84) (by decide +kernel) rfl rfl ?_
              refine ms_geti (idx := 251) (ci := 9) (k := 5) (q := 1396) (p' := 87) (by decide +kernel) rfl (k_223 hw) ?_
              exact ms_iret (by decide +kernel)
            · refine ms_iconst (n := (-1)) (v := (-1)) (p' := 80) (by decide +kernel) rfl ?_
              refine ms_goto (off := 7) (p' := 87) (by decide +kernel) ?_
              exact ms_iret (by decide +kernel)
          · rw [if_neg hs4]
            by_cases hs5 : x1 = 5
            · rw [if_pos hs5]
              refine ms_tabIn (t := 88) hd (by omega) (by rw [hs5]; decide +kernel) ?_
              refine ms_aload_n (k := 0) (p' := 89) (by decide +kernel) rfl rfl ?_
              refine ms_virt_i (idx := 435) (cy := yM_traced) (n := 0) (a := 223) (as := []) (rest := []) (p' := 92) (by decide +kernel) rfl rfl rfl rfl (k_223 hw) rfl (fun f1 v2 => ?_)
              exact ms_iret (by decide +kernel)
            · rw [if_neg hs5]
              by_cases hs6 : x1 = 6
              · rw [if_pos hs6]
                refine ms_tabIn (t := 93) hd (by omega) (by rw [hs6]; decide +kernel) ?_
                refine ms_aload_n (k := 0) (p' := 94) (by decide +kernel) rfl rfl ?_
                refine ms_geti (idx := 261) (ci := 9) (k := 18) (q := 1409) (p' := 97) (by decide +kernel) rfl (k_223 hw) ?_
                exact ms_iret (by decide +kernel)
              · rw [if_neg hs6]
                by_cases hs7 : x1 = 7
                · rw [if_pos hs7]
                  refine ms_tabIn (t := 98) hd (by omega) (by rw [hs7]; decide +kernel) ?_
                  refine ms_aload_n (k := 0) (p' := 99) (by decide +kernel) rfl rfl ?_
                  refine ms_geti (idx := 133) (ci := 9) (k := 25) (q := 1416) (p' := 102) (by decide +kernel) rfl (k_223 hw) ?_
                  exact ms_iret (by decide +kernel)
                · rw [if_neg hs7]
                  refine ms_tabOut (t := 103) hd (by omega) (by decide +kernel) ?_
                  refine ms_iconst (n := (-1)) (v := (-1)) (p' := 104) (by decide +kernel) rfl ?_
                  exact ms_iret (by decide +kernel)
