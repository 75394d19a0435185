/-! What each method does from its entry (c_), and from the heads of its loops (l_). Written by wip/whole/gen/mkall.py out of the bytes. -/
theorem tp_ret {sw : Bool} {w : mj_W} (hw : wk sw w) (f : mj_F) (r : mj_O) (h : mj_call yX_timesOfPath w f [.inr (.inl 2)] = some r) : r.2.2 = some (.inr (.inl 170)) := by
  rw [c_X_timesOfPath hw] at h
  split at h
  · cases h; rfl
  · cases hb : mj_call yT_build w f [.inr (.inl 170), .inr (.inl (pl sw)), .inr (.inl 168)] with
    | none => rw [hb] at h; cases h
    | some q =>
      obtain ⟨w2, f2, v⟩ := q
      rw [hb] at h
      cases v with
      | none => cases h; rfl
      | some v => cases h
theorem c_X_can {sw : Bool} {w : mj_W} (hw : wk sw w) (f : mj_F)   : mj_call yX_can w f [.inr (.inl 2)] = if ¬ (f (pl sw) 2) = 0 then mj_bt (mj_call yX_timesOfPath w f [.inr (.inl 2)]) (fun f1 => if (f1 170 6) = 0 then some (w, f1, some (.inl 0)) else some (w, f1, some (.inl 1))) else some (w, f, some (.inl (-1))) := by
  show mj_run yX_can w f 0 [.inr (.inl 2)] [] = _
  refine ms_aload_n (k := 0) (p' := 1) (by decide +kernel) rfl rfl ?_
  refine ms_getr (idx := 19) (ci := 8) (k := 1) (q := 519) (p' := 4) (by decide +kernel) rfl (k_2 hw) (r_2_1 hw) (pn_0 (pl_pn sw)) ?_
  refine ms_geti (idx := 350) (ci := 3) (k := 2) (q := 210) (p' := 7) (by decide +kernel) rfl (pn_k (pl_pn sw) hw) ?_
  refine ms_if_ne (off := 5) (t := 12) (p' := 10) (by decide +kernel) rfl (fun hc => ?_) (fun hc => ?_)
  · refine ms_aload_n (k := 0) (p' := 13) (by decide +kernel) rfl rfl ?_
    refine ms_virt_t (idx := 387) (cy := yX_timesOfPath) (n := 0) (t := 170) (a := 2) (as := []) (rest := []) (p' := 16) (by decide +kernel) rfl rfl rfl rfl (k_2 hw) rfl (tp_ret hw _) (fun f1 => ?_)
    refine ms_geti (idx := 391) (ci := 5) (k := 6) (q := 455) (p' := 19) (by decide +kernel) rfl (k_170 hw) ?_
    refine ms_if_eq (off := 7) (t := 26) (p' := 22) (by decide +kernel) rfl (fun hc => ?_) (fun hc => ?_)
    · refine ms_iconst (n := 0) (v := 0) (p' := 27) (by decide +kernel) rfl ?_
      exact ms_iret (by decide +kernel)
    · refine ms_iconst (n := 1) (v := 1) (p' := 23) (by decide +kernel) rfl ?_
      refine ms_goto (off := 4) (p' := 27) (by decide +kernel) ?_
      exact ms_iret (by decide +kernel)
  · refine ms_iconst (n := (-1)) (v := (-1)) (p' := 11) (by decide +kernel) rfl ?_
    exact ms_iret (by decide +kernel)
theorem c_X_window {sw : Bool} {w : mj_W} (hw : wk sw w) (f : mj_F) (x1 : Int) (x2 : Int)  : mj_call yX_window w f [.inr (.inl 2), .inl x1, .inl x2] = if x1 < 0 then some (w, f, some (.inl (-1))) else if x2 < 0 then some (w, f, some (.inl (-1))) else if x2 ≤ 3 then if x1 < (f 168 1) then mj_bt (mj_call yX_timesOfPath w f [.inr (.inl 2)]) (fun f1 => if ¬ (f1 170 6) = 0 then mj_bi (mj_call yT_span w f1 [.inr (.inl 170), .inl 0, .inl (mj_w (x1 + 1)), .inl 0, .inl x2]) (fun f2 v3 => some (w, f2, some (.inl v3))) else some (w, f1, some (.inl (-3)))) else some (w, f, some (.inl (-2))) else some (w, f, some (.inl (-1))) := by
  show mj_run yX_window w f 0 [.inr (.inl 2), .inl x1, .inl x2] [] = _
  refine ms_iload_n (k := 1) (p' := 1) (by decide +kernel) rfl rfl ?_
  refine ms_if_lt (off := 12) (t := 13) (p' := 4) (by decide +kernel) rfl (fun hc => ?_) (fun hc => ?_)
  · refine ms_iconst (n := (-1)) (v := (-1)) (p' := 14) (by decide +kernel) rfl ?_
    exact ms_iret (by decide +kernel)
  · refine ms_iload_n (k := 2) (p' := 5) (by decide +kernel) rfl rfl ?_
    refine ms_if_lt (off := 8) (t := 13) (p' := 8) (by decide +kernel) rfl (fun hc => ?_) (fun hc => ?_)
    · refine ms_iconst (n := (-1)) (v := (-1)) (p' := 14) (by decide +kernel) rfl ?_
      exact ms_iret (by decide +kernel)
    · refine ms_iload_n (k := 2) (p' := 9) (by decide +kernel) rfl rfl ?_
      refine ms_iconst (n := 3) (v := 3) (p' := 10) (by decide +kernel) rfl ?_
      refine ms_icmp_le (off := 5) (t := 15) (p' := 13) (by decide +kernel) rfl (fun hc => ?_) (fun hc => ?_)
      · refine ms_iload_n (k := 1) (p' := 16) (by decide +kernel) rfl rfl ?_
        refine ms_aload_n (k := 0) (p' := 17) (by decide +kernel) rfl rfl ?_
        refine ms_getr (idx := 51) (ci := 8) (k := 7) (q := 525) (p' := 20) (by decide +kernel) rfl (k_2 hw) (r_2_7 hw) (by decide) ?_
        refine ms_geti (idx := 375) (ci := 2) (k := 1) (q := 434) (p' := 23) (by decide +kernel) rfl (k_168 hw) ?_
        refine ms_icmp_lt (off := 6) (t := 29) (p' := 26) (by decide +kernel) rfl (fun hc => ?_) (fun hc => ?_)
        · refine ms_aload_n (k := 0) (p' := 30) (by decide +kernel) rfl rfl ?_
          refine ms_virt_t (idx := 387) (cy := yX_timesOfPath) (n := 0) (t := 170) (a := 2) (as := []) (rest := []) (p' := 33) (by decide +kernel) rfl rfl rfl rfl (k_2 hw) rfl (tp_ret hw _) (fun f1 => ?_)
          refine ms_geti (idx := 391) (ci := 5) (k := 6) (q := 455) (p' := 36) (by decide +kernel) rfl (k_170 hw) ?_
          refine ms_if_ne (off := 6) (t := 42) (p' := 39) (by decide +kernel) rfl (fun hc => ?_) (fun hc => ?_)
          · refine ms_aload_n (k := 0) (p' := 43) (by decide +kernel) rfl rfl ?_
            refine ms_getr (idx := 58) (ci := 8) (k := 8) (q := 526) (p' := 46) (by decide +kernel) rfl (k_2 hw) (r_2_8 hw) (by decide) ?_
            refine ms_iconst (n := 0) (v := 0) (p' := 47) (by decide +kernel) rfl ?_
            refine ms_iload_n (k := 1) (p' := 48) (by decide +kernel) rfl rfl ?_
            refine ms_iconst (n := 1) (v := 1) (p' := 49) (by decide +kernel) rfl ?_
            refine ms_iadd (p' := 50) (by decide +kernel) rfl ?_
            refine ms_iconst (n := 0) (v := 0) (p' := 51) (by decide +kernel) rfl ?_
            refine ms_iload_n (k := 2) (p' := 52) (by decide +kernel) rfl rfl ?_
            refine ms_virt_i (idx := 394) (cy := yT_span) (n := 4) (a := 170) (as := [.inl 0, .inl (mj_w (x1 + 1)), .inl 0, .inl x2]) (rest := []) (p' := 55) (by decide +kernel) rfl rfl rfl rfl (k_170 hw) rfl (fun f2 v3 => ?_)
            exact ms_iret (by decide +kernel)
          · refine ms_bipush (n := (-3)) (v := (-3)) (p' := 41) (by decide +kernel) rfl ?_
            exact ms_iret (by decide +kernel)
        · refine ms_bipush (n := (-2)) (v := (-2)) (p' := 28) (by decide +kernel) rfl ?_
          exact ms_iret (by decide +kernel)
      · refine ms_iconst (n := (-1)) (v := (-1)) (p' := 14) (by decide +kernel) rfl ?_
        exact ms_iret (by decide +kernel)
theorem c_X_between {sw : Bool} {w : mj_W} (hw : wk sw w) (f : mj_F) (x1 : Int) (x2 : Int) (x3 : Int)  : mj_call yX_between w f [.inr (.inl 2), .inl x1, .inl x2, .inl x3] = if x1 < 0 then some (w, f, some (.inl (-1))) else if x2 ≤ x1 then some (w, f, some (.inl (-1))) else if x3 < 0 then some (w, f, some (.inl (-1))) else if x3 ≤ 3 then if x2 < (f 168 1) then mj_bt (mj_call yX_timesOfPath w f [.inr (.inl 2)]) (fun f1 => if ¬ (f1 170 6) = 0 then mj_bi (mj_call yT_span w f1 [.inr (.inl 170), .inl (mj_w (x1 + 1)), .inl (mj_w (x2 + 1)), .inl 0, .inl x3]) (fun f2 v3 => some (w, f2, some (.inl v3))) else some (w, f1, some (.inl (-3)))) else some (w, f, some (.inl (-2))) else some (w, f, some (.inl (-1))) := by
  show mj_run yX_between w f 0 [.inr (.inl 2), .inl x1, .inl x2, .inl x3] [] = _
  refine ms_iload_n (k := 1) (p' := 1) (by decide +kernel) rfl rfl ?_
  refine ms_if_lt (off := 17) (t := 18) (p' := 4) (by decide +kernel) rfl (fun hc => ?_) (fun hc => ?_)
  · refine ms_iconst (n := (-1)) (v := (-1)) (p' := 19) (by decide +kernel) rfl ?_
    exact ms_iret (by decide +kernel)
  · refine ms_iload_n (k := 2) (p' := 5) (by decide +kernel) rfl rfl ?_
    refine ms_iload_n (k := 1) (p' := 6) (by decide +kernel) rfl rfl ?_
    refine ms_icmp_le (off := 12) (t := 18) (p' := 9) (by decide +kernel) rfl (fun hc => ?_) (fun hc => ?_)
    · refine ms_iconst (n := (-1)) (v := (-1)) (p' := 19) (by decide +kernel) rfl ?_
      exact ms_iret (by decide +kernel)
    · refine ms_iload_n (k := 3) (p' := 10) (by decide +kernel) rfl rfl ?_
      refine ms_if_lt (off := 8) (t := 18) (p' := 13) (by decide +kernel) rfl (fun hc => ?_) (fun hc => ?_)
      · refine ms_iconst (n := (-1)) (v := (-1)) (p' := 19) (by decide +kernel) rfl ?_
        exact ms_iret (by decide +kernel)
      · refine ms_iload_n (k := 3) (p' := 14) (by decide +kernel) rfl rfl ?_
        refine ms_iconst (n := 3) (v := 3) (p' := 15) (by decide +kernel) rfl ?_
        refine ms_icmp_le (off := 5) (t := 20) (p' := 18) (by decide +kernel) rfl (fun hc => ?_) (fun hc => ?_)
        · refine ms_iload_n (k := 2) (p' := 21) (by decide +kernel) rfl rfl ?_
          refine ms_aload_n (k := 0) (p' := 22) (by decide +kernel) rfl rfl ?_
          refine ms_getr (idx := 51) (ci := 8) (k := 7) (q := 525) (p' := 25) (by decide +kernel) rfl (k_2 hw) (r_2_7 hw) (by decide) ?_
          refine ms_geti (idx := 375) (ci := 2) (k := 1) (q := 434) (p' := 28) (by decide +kernel) rfl (k_168 hw) ?_
          refine ms_icmp_lt (off := 6) (t := 34) (p' := 31) (by decide +kernel) rfl (fun hc => ?_) (fun hc => ?_)
          · refine ms_aload_n (k := 0) (p' := 35) (by decide +kernel) rfl rfl ?_
            refine ms_virt_t (idx := 387) (cy := yX_timesOfPath) (n := 0) (t := 170) (a := 2) (as := []) (rest := []) (p' := 38) (by decide +kernel) rfl rfl rfl rfl (k_2 hw) rfl (tp_ret hw _) (fun f1 => ?_)
            refine ms_geti (idx := 391) (ci := 5) (k := 6) (q := 455) (p' := 41) (by decide +kernel) rfl (k_170 hw) ?_
            refine ms_if_ne (off := 6) (t := 47) (p' := 44) (by decide +kernel) rfl (fun hc => ?_) (fun hc => ?_)
            · refine ms_aload_n (k := 0) (p' := 48) (by decide +kernel) rfl rfl ?_
              refine ms_getr (idx := 58) (ci := 8) (k := 8) (q := 526) (p' := 51) (by decide +kernel) rfl (k_2 hw) (r_2_8 hw) (by decide) ?_
              refine ms_iload_n (k := 1) (p' := 52) (by decide +kernel) rfl rfl ?_
              refine ms_iconst (n := 1) (v := 1) (p' := 53) (by decide +kernel) rfl ?_
              refine ms_iadd (p' := 54) (by decide +kernel) rfl ?_
              refine ms_iload_n (k := 2) (p' := 55) (by decide +kernel) rfl rfl ?_
              refine ms_iconst (n := 1) (v := 1) (p' := 56) (by decide +kernel) rfl ?_
              refine ms_iadd (p' := 57) (by decide +kernel) rfl ?_
              refine ms_iconst (n := 0) (v := 0) (p' := 58) (by decide +kernel) rfl ?_
              refine ms_iload_n (k := 3) (p' := 59) (by decide +kernel) rfl rfl ?_
              refine ms_virt_i (idx := 394) (cy := yT_span) (n := 4) (a := 170) (as := [.inl (mj_w (x1 + 1)), .inl (mj_w (x2 + 1)), .inl 0, .inl x3]) (rest := []) (p' := 62) (by decide +kernel) rfl rfl rfl rfl (k_170 hw) rfl (fun f2 v3 => ?_)
              exact ms_iret (by decide +kernel)
            · refine ms_bipush (n := (-3)) (v := (-3)) (p' := 46) (by decide +kernel) rfl ?_
              exact ms_iret (by decide +kernel)
          · refine ms_bipush (n := (-2)) (v := (-2)) (p' := 33) (by decide +kernel) rfl ?_
            exact ms_iret (by decide +kernel)
        · refine ms_iconst (n := (-1)) (v := (-1)) (p' := 19) (by decide +kernel) rfl ?_
          exact ms_iret (by decide +kernel)
theorem c_X_value {sw : Bool} {w : mj_W} (hw : wk sw w) (f : mj_F) (x1 : Int) (x2 : Int) (x3 : Int)  : mj_call yX_value w f [.inr (.inl 2), .inl x1, .inl x2, .inl x3] = if x1 < 0 then some (w, f, some (.inl (-1))) else mj_bi (mj_call yX_isClock w f [.inr (.inl 2), .inl x2]) (fun f1 v2 => if v2 = 0 then some (w, f1, some (.inl (-1))) else if x3 < 0 then some (w, f1, some (.inl (-1))) else if x3 ≤ 3 then if x1 < (f1 168 1) then mj_bt (mj_call yX_timesOfPath w f1 [.inr (.inl 2)]) (fun f3 => if ¬ (f3 170 6) = 0 then mj_bi (mj_call yP_setterAhead w f3 [.inr (.inl 168), .inr (.inl (pl sw)), .inl x1, .inl x2]) (fun f4 v5 => if 0 ≤ v5 then mj_gd (0 ≤ v5 ∧ v5 < ((20 : Nat) : Int)) (mj_bi (mj_call yL_numberSet w f4 [.inr (.inl (pl sw)), .inl (f4 169 v5.toNat), .inl x2]) (fun f7 v8 => mj_bi (mj_call yT_span w f7 [.inr (.inl 170), .inl (mj_w (v5 + 1)), .inl (mj_w (x1 + 1)), .inl v8, .inl x3]) (fun f9 v10 => some (w, f9, some (.inl v10))))) else mj_bi (mj_call yT_span w f4 [.inr (.inl 170), .inl (mj_w (v5 + 1)), .inl (mj_w (x1 + 1)), .inl 0, .inl x3]) (fun f11 v12 => some (w, f11, some (.inl v12)))) else some (w, f3, some (.inl (-3)))) else some (w, f1, some (.inl (-2))) else some (w, f1, some (.inl (-1)))) := by
  show mj_run yX_value w f 0 [.inr (.inl 2), .inl x1, .inl x2, .inl x3, .inr (.inr (.inr 0)), .inr (.inr (.inr 0))] [] = _
  refine ms_iload_n (k := 1) (p' := 1) (by decide +kernel) rfl rfl ?_
  refine ms_if_lt (off := 20) (t := 21) (p' := 4) (by decide +kernel) rfl (fun hc => ?_) (fun hc => ?_)
  · refine ms_iconst (n := (-1)) (v := (-1)) (p' := 22) (by decide +kernel) rfl ?_
    exact ms_iret (by decide +kernel)
  · refine ms_aload_n (k := 0) (p' := 5) (by decide +kernel) rfl rfl ?_
    refine ms_iload_n (k := 2) (p' := 6) (by decide +kernel) rfl rfl ?_
    refine ms_virt_i (idx := 176) (cy := yX_isClock) (n := 1) (a := 2) (as := [.inl x2]) (rest := []) (p' := 9) (by decide +kernel) rfl rfl rfl rfl (k_2 hw) rfl (fun f1 v2 => ?_)
    refine ms_if_eq (off := 12) (t := 21) (p' := 12) (by decide +kernel) rfl (fun hc => ?_) (fun hc => ?_)
    · refine ms_iconst (n := (-1)) (v := (-1)) (p' := 22) (by decide +kernel) rfl ?_
      exact ms_iret (by decide +kernel)
    · refine ms_iload_n (k := 3) (p' := 13) (by decide +kernel) rfl rfl ?_
      refine ms_if_lt (off := 8) (t := 21) (p' := 16) (by decide +kernel) rfl (fun hc => ?_) (fun hc => ?_)
      · refine ms_iconst (n := (-1)) (v := (-1)) (p' := 22) (by decide +kernel) rfl ?_
        exact ms_iret (by decide +kernel)
      · refine ms_iload_n (k := 3) (p' := 17) (by decide +kernel) rfl rfl ?_
        refine ms_iconst (n := 3) (v := 3) (p' := 18) (by decide +kernel) rfl ?_
        refine ms_icmp_le (off := 5) (t := 23) (p' := 21) (by decide +kernel) rfl (fun hc => ?_) (fun hc => ?_)
        · refine ms_iload_n (k := 1) (p' := 24) (by decide +kernel) rfl rfl ?_
          refine ms_aload_n (k := 0) (p' := 25) (by decide +kernel) rfl rfl ?_
          refine ms_getr (idx := 51) (ci := 8) (k := 7) (q := 525) (p' := 28) (by decide +kernel) rfl (k_2 hw) (r_2_7 hw) (by decide) ?_
          refine ms_geti (idx := 375) (ci := 2) (k := 1) (q := 434) (p' := 31) (by decide +kernel) rfl (k_168 hw) ?_
          refine ms_icmp_lt (off := 6) (t := 37) (p' := 34) (by decide +kernel) rfl (fun hc => ?_) (fun hc => ?_)
          · refine ms_aload_n (k := 0) (p' := 38) (by decide +kernel) rfl rfl ?_
            refine ms_virt_t (idx := 387) (cy := yX_timesOfPath) (n := 0) (t := 170) (a := 2) (as := []) (rest := []) (p' := 41) (by decide +kernel) rfl rfl rfl rfl (k_2 hw) rfl (tp_ret hw _) (fun f3 => ?_)
            refine ms_geti (idx := 391) (ci := 5) (k := 6) (q := 455) (p' := 44) (by decide +kernel) rfl (k_170 hw) ?_
            refine ms_if_ne (off := 6) (t := 50) (p' := 47) (by decide +kernel) rfl (fun hc => ?_) (fun hc => ?_)
            · refine ms_aload_n (k := 0) (p' := 51) (by decide +kernel) rfl rfl ?_
              refine ms_getr (idx := 51) (ci := 8) (k := 7) (q := 525) (p' := 54) (by decide +kernel) rfl (k_2 hw) (r_2_7 hw) (by decide) ?_
              refine ms_aload_n (k := 0) (p' := 55) (by decide +kernel) rfl rfl ?_
              refine ms_getr (idx := 19) (ci := 8) (k := 1) (q := 519) (p' := 58) (by decide +kernel) rfl (k_2 hw) (r_2_1 hw) (pn_0 (pl_pn sw)) ?_
              refine ms_iload_n (k := 1) (p' := 59) (by decide +kernel) rfl rfl ?_
              refine ms_iload_n (k := 2) (p' := 60) (by decide +kernel) rfl rfl ?_
              refine ms_virt_i (idx := 398) (cy := yP_setterAhead) (n := 3) (a := 168) (as := [.inr (.inl (pl sw)), .inl x1, .inl x2]) (rest := []) (p' := 63) (by decide +kernel) rfl rfl rfl rfl (k_168 hw) rfl (fun f4 v5 => ?_)
              refine ms_istore (k := 4) (ls' := [.inr (.inl 2), .inl x1, .inl x2, .inl x3, .inl v5, .inr (.inr (.inr 0))]) (p' := 65) (by decide +kernel) rfl (Nat.le_of_ble_eq_true rfl) rfl ?_
              refine ms_iload (k := 4) (p' := 67) (by decide +kernel) rfl rfl ?_
              refine ms_if_ge (off := 7) (t := 74) (p' := 70) (by decide +kernel) rfl (fun hc => ?_) (fun hc => ?_)
              · refine ms_aload_n (k := 0) (p' := 75) (by decide +kernel) rfl rfl ?_
                refine ms_getr (idx := 19) (ci := 8) (k := 1) (q := 519) (p' := 78) (by decide +kernel) rfl (k_2 hw) (r_2_1 hw) (pn_0 (pl_pn sw)) ?_
                refine ms_aload_n (k := 0) (p' := 79) (by decide +kernel) rfl rfl ?_
                refine ms_getr (idx := 51) (ci := 8) (k := 7) (q := 525) (p' := 82) (by decide +kernel) rfl (k_2 hw) (r_2_7 hw) (by decide) ?_
                refine ms_getr (idx := 381) (ci := 2) (k := 0) (q := 430) (p' := 85) (by decide +kernel) rfl (k_168 hw) (r_168_0 hw) (by decide) ?_
                refine ms_iload (k := 4) (p' := 87) (by decide +kernel) rfl rfl ?_
                refine ms_iald (p' := 88) (by decide +kernel) rfl (k_169 hw) (fun hj6 => ?_)
                refine ms_iload_n (k := 2) (p' := 89) (by decide +kernel) rfl rfl ?_
                refine ms_virt_i (idx := 402) (cy := yL_numberSet) (n := 2) (a := (pl sw)) (as := [.inl (f4 169 v5.toNat), .inl x2]) (rest := []) (p' := 92) (by decide +kernel) rfl rfl rfl rfl (pn_k (pl_pn sw) hw) rfl (fun f7 v8 => ?_)
                refine ms_istore (k := 5) (ls' := [.inr (.inl 2), .inl x1, .inl x2, .inl x3, .inl v5, .inl v8]) (p' := 94) (by decide +kernel) rfl (Nat.le_of_ble_eq_true rfl) rfl ?_
                refine ms_aload_n (k := 0) (p' := 95) (by decide +kernel) rfl rfl ?_
                refine ms_getr (idx := 58) (ci := 8) (k := 8) (q := 526) (p' := 98) (by decide +kernel) rfl (k_2 hw) (r_2_8 hw) (by decide) ?_
                refine ms_iload (k := 4) (p' := 100) (by decide +kernel) rfl rfl ?_
                refine ms_iconst (n := 1) (v := 1) (p' := 101) (by decide +kernel) rfl ?_
                refine ms_iadd (p' := 102) (by decide +kernel) rfl ?_
                refine ms_iload_n (k := 1) (p' := 103) (by decide +kernel) rfl rfl ?_
                refine ms_iconst (n := 1) (v := 1) (p' := 104) (by decide +kernel) rfl ?_
                refine ms_iadd (p' := 105) (by decide +kernel) rfl ?_
                refine ms_iload (k := 5) (p' := 107) (by decide +kernel) rfl rfl ?_
                refine ms_iload_n (k := 3) (p' := 108) (by decide +kernel) rfl rfl ?_
                refine ms_virt_i (idx := 394) (cy := yT_span) (n := 4) (a := 170) (as := [.inl (mj_w (v5 + 1)), .inl (mj_w (x1 + 1)), .inl v8, .inl x3]) (rest := []) (p' := 111) (by decide +kernel) rfl rfl rfl rfl (k_170 hw) rfl (fun f9 v10 => ?_)
                exact ms_iret (by decide +kernel)
              · refine ms_iconst (n := 0) (v := 0) (p' := 71) (by decide +kernel) rfl ?_
                refine ms_goto (off := 21) (p' := 92) (by decide +kernel) ?_
                refine ms_istore (k := 5) (ls' := [.inr (.inl 2), .inl x1, .inl x2, .inl x3, .inl v5, .inl 0]) (p' := 94) (by decide +kernel) rfl (Nat.le_of_ble_eq_true rfl) rfl ?_
                refine ms_aload_n (k := 0) (p' := 95) (by decide +kernel) rfl rfl ?_
                refine ms_getr (idx := 58) (ci := 8) (k := 8) (q := 526) (p' := 98) (by decide +kernel) rfl (k_2 hw) (r_2_8 hw) (by decide) ?_
                refine ms_iload (k := 4) (p' := 100) (by decide +kernel) rfl rfl ?_
                refine ms_iconst (n := 1) (v := 1) (p' := 101) (by decide +kernel) rfl ?_
                refine ms_iadd (p' := 102) (by decide +kernel) rfl ?_
                refine ms_iload_n (k := 1) (p' := 103) (by decide +kernel) rfl rfl ?_
                refine ms_iconst (n := 1) (v := 1) (p' := 104) (by decide +kernel) rfl ?_
                refine ms_iadd (p' := 105) (by decide +kernel) rfl ?_
                refine ms_iload (k := 5) (p' := 107) (by decide +kernel) rfl rfl ?_
                refine ms_iload_n (k := 3) (p' := 108) (by decide +kernel) rfl rfl ?_
                refine ms_virt_i (idx := 394) (cy := yT_span) (n := 4) (a := 170) (as := [.inl (mj_w (v5 + 1)), .inl (mj_w (x1 + 1)), .inl 0, .inl x3]) (rest := []) (p' := 111) (by decide +kernel) rfl rfl rfl rfl (k_170 hw) rfl (fun f11 v12 => ?_)
                exact ms_iret (by decide +kernel)
            · refine ms_bipush (n := (-3)) (v := (-3)) (p' := 49) (by decide +kernel) rfl ?_
              exact ms_iret (by decide +kernel)
          · refine ms_bipush (n := (-2)) (v := (-2)) (p' := 36) (by decide +kernel) rfl ?_
            exact ms_iret (by decide +kernel)
        · refine ms_iconst (n := (-1)) (v := (-1)) (p' := 22) (by decide +kernel) rfl ?_
          exact ms_iret (by decide +kernel)
theorem c_X_moment {sw : Bool} {w : mj_W} (hw : wk sw w) (f : mj_F) (x1 : Int)  : mj_call yX_moment w f [.inr (.inl 2), .inl x1] = if 0 ≤ x1 then if x1 < (f 168 1) then mj_bt (mj_call yX_timesOfPath w f [.inr (.inl 2)]) (fun f1 => if ¬ (f1 170 6) = 0 then if (f1 170 5) = 0 then if (f1 170 7) = 0 then some (w, f1, some (.inl (-4))) else mj_bi (mj_call yT_leastWhole w f1 [.inr (.inl 170), .inl (mj_w (x1 + 1))]) (fun f2 v3 => some (w, f2, some (.inl v3))) else mj_bu (mj_call yT_buildWhole w f1 [.inr (.inl 170), .inr (.inl 168)]) (fun f4 => if (f4 170 7) = 0 then some (w, f4, some (.inl (-4))) else mj_bi (mj_call yT_leastWhole w f4 [.inr (.inl 170), .inl (mj_w (x1 + 1))]) (fun f5 v6 => some (w, f5, some (.inl v6)))) else some (w, f1, some (.inl (-3)))) else some (w, f, some (.inl (-2))) else some (w, f, some (.inl (-1))) := by
  show mj_run yX_moment w f 0 [.inr (.inl 2), .inl x1] [] = _
  refine ms_iload_n (k := 1) (p' := 1) (by decide +kernel) rfl rfl ?_
  refine ms_if_ge (off := 5) (t := 6) (p' := 4) (by decide +kernel) rfl (fun hc => ?_) (fun hc => ?_)
  · refine ms_iload_n (k := 1) (p' := 7) (by decide +kernel) rfl rfl ?_
    refine ms_aload_n (k := 0) (p' := 8) (by decide +kernel) rfl rfl ?_
    refine ms_getr (idx := 51) (ci := 8) (k := 7) (q := 525) (p' := 11) (by decide +kernel) rfl (k_2 hw) (r_2_7 hw) (by decide) ?_
    refine ms_geti (idx := 375) (ci := 2) (k := 1) (q := 434) (p' := 14) (by decide +kernel) rfl (k_168 hw) ?_
    refine ms_icmp_lt (off := 6) (t := 20) (p' := 17) (by decide +kernel) rfl (fun hc => ?_) (fun hc => ?_)
    · refine ms_aload_n (k := 0) (p' := 21) (by decide +kernel) rfl rfl ?_
      refine ms_virt_t (idx := 387) (cy := yX_timesOfPath) (n := 0) (t := 170) (a := 2) (as := []) (rest := []) (p' := 24) (by decide +kernel) rfl rfl rfl rfl (k_2 hw) rfl (tp_ret hw _) (fun f1 => ?_)
      refine ms_geti (idx := 391) (ci := 5) (k := 6) (q := 455) (p' := 27) (by decide +kernel) rfl (k_170 hw) ?_
      refine ms_if_ne (off := 6) (t := 33) (p' := 30) (by decide +kernel) rfl (fun hc => ?_) (fun hc => ?_)
      · refine ms_aload_n (k := 0) (p' := 34) (by decide +kernel) rfl rfl ?_
        refine ms_getr (idx := 58) (ci := 8) (k := 8) (q := 526) (p' := 37) (by decide +kernel) rfl (k_2 hw) (r_2_8 hw) (by decide) ?_
        refine ms_geti (idx := 405) (ci := 5) (k := 5) (q := 453) (p' := 40) (by decide +kernel) rfl (k_170 hw) ?_
        refine ms_if_eq (off := 14) (t := 54) (p' := 43) (by decide +kernel) rfl (fun hc => ?_) (fun hc => ?_)
        · refine ms_aload_n (k := 0) (p' := 55) (by decide +kernel) rfl rfl ?_
          refine ms_getr (idx := 58) (ci := 8) (k := 8) (q := 526) (p' := 58) (by decide +kernel) rfl (k_2 hw) (r_2_8 hw) (by decide) ?_
          refine ms_geti (idx := 412) (ci := 5) (k := 7) (q := 457) (p' := 61) (by decide +kernel) rfl (k_170 hw) ?_
          refine ms_if_eq (off := 16) (t := 77) (p' := 64) (by decide +kernel) rfl (fun hc => ?_) (fun hc => ?_)
          · refine ms_bipush (n := (-4)) (v := (-4)) (p' := 79) (by decide +kernel) rfl ?_
            exact ms_iret (by decide +kernel)
          · refine ms_aload_n (k := 0) (p' := 65) (by decide +kernel) rfl rfl ?_
            refine ms_getr (idx := 58) (ci := 8) (k := 8) (q := 526) (p' := 68) (by decide +kernel) rfl (k_2 hw) (r_2_8 hw) (by decide) ?_
            refine ms_iload_n (k := 1) (p' := 69) (by decide +kernel) rfl rfl ?_
            refine ms_iconst (n := 1) (v := 1) (p' := 70) (by decide +kernel) rfl ?_
            refine ms_iadd (p' := 71) (by decide +kernel) rfl ?_
            refine ms_virt_i (idx := 415) (cy := yT_leastWhole) (n := 1) (a := 170) (as := [.inl (mj_w (x1 + 1))]) (rest := []) (p' := 74) (by decide +kernel) rfl rfl rfl rfl (k_170 hw) rfl (fun f2 v3 => ?_)
            refine ms_goto (off := 5) (p' := 79) (by decide +kernel) ?_
            exact ms_iret (by decide +kernel)
        · refine ms_aload_n (k := 0) (p' := 44) (by decide +kernel) rfl rfl ?_
          refine ms_getr (idx := 58) (ci := 8) (k := 8) (q := 526) (p' := 47) (by decide +kernel) rfl (k_2 hw) (r_2_8 hw) (by decide) ?_
          refine ms_aload_n (k := 0) (p' := 48) (by decide +kernel) rfl rfl ?_
          refine ms_getr (idx := 51) (ci := 8) (k := 7) (q := 525) (p' := 51) (by decide +kernel) rfl (k_2 hw) (r_2_7 hw) (by decide) ?_
          refine ms_virt_u (idx := 408) (cy := yT_buildWhole) (n := 1) (a := 170) (as := [.inr (.inl 168)]) (rest := []) (p' := 54) (by decide +kernel) rfl rfl rfl rfl (k_170 hw) rfl (fun f4 => ?_)
          refine ms_aload_n (k := 0) (p' := 55) (by decide +kernel) rfl rfl ?_
          refine ms_getr (idx := 58) (ci := 8) (k := 8) (q := 526) (p' := 58) (by decide +kernel) rfl (k_2 hw) (r_2_8 hw) (by decide) ?_
          refine ms_geti (idx := 412) (ci := 5) (k := 7) (q := 457) (p' := 61) (by decide +kernel) rfl (k_170 hw) ?_
          refine ms_if_eq (off := 16) (t := 77) (p' := 64) (by decide +kernel) rfl (fun hc => ?_) (fun hc => ?_)
          · refine ms_bipush (n := (-4)) (v := (-4)) (p' := 79) (by decide +kernel) rfl ?_
            exact ms_iret (by decide +kernel)
          · refine ms_aload_n (k := 0) (p' := 65) (by decide +kernel) rfl rfl ?_
            refine ms_getr (idx := 58) (ci := 8) (k := 8) (q := 526) (p' := 68) (by decide +kernel) rfl (k_2 hw) (r_2_8 hw) (by decide) ?_
            refine ms_iload_n (k := 1) (p' := 69) (by decide +kernel) rfl rfl ?_
            refine ms_iconst (n := 1) (v := 1) (p' := 70) (by decide +kernel) rfl ?_
            refine ms_iadd (p' := 71) (by decide +kernel) rfl ?_
            refine ms_virt_i (idx := 415) (cy := yT_leastWhole) (n := 1) (a := 170) (as := [.inl (mj_w (x1 + 1))]) (rest := []) (p' := 74) (by decide +kernel) rfl rfl rfl rfl (k_170 hw) rfl (fun f5 v6 => ?_)
            refine ms_goto (off := 5) (p' := 79) (by decide +kernel) ?_
            exact ms_iret (by decide +kernel)
      · refine ms_bipush (n := (-3)) (v := (-3)) (p' := 32) (by decide +kernel) rfl ?_
        exact ms_iret (by decide +kernel)
    · refine ms_bipush (n := (-2)) (v := (-2)) (p' := 19) (by decide +kernel) rfl ?_
      exact ms_iret (by decide +kernel)
  · refine ms_iconst (n := (-1)) (v := (-1)) (p' := 5) (by decide +kernel) rfl ?_
    exact ms_iret (by decide +kernel)
