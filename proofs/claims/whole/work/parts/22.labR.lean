/-! What each method does from its entry (c_), and from the heads of its loops (l_). Written by wip/whole/gen/mkall.py out of the bytes. -/
theorem c_R_putBytes {sw : Bool} {w : mj_W} (hw : wk sw w) (f : mj_F) (x1 : Int)  : mj_call yR_putBytes w f [.inr (.inl 3), .inl x1] = mj_run yR_putBytes w f 3 [.inr (.inl 3), .inl x1, .inl 24] [] := by
  show mj_run yR_putBytes w f 0 [.inr (.inl 3), .inl x1, .inr (.inr (.inr 0))] [] = _
  refine ms_bipush (n := 24) (v := 24) (p' := 2) (by decide +kernel) rfl ?_
  refine ms_istore_n (k := 2) (ls' := [.inr (.inl 3), .inl x1, .inl 24]) (p' := 3) (by decide +kernel) rfl (Nat.le_of_ble_eq_true rfl) rfl ?_
  rfl
theorem l_R_putBytes_3 {sw : Bool} {w : mj_W} (hw : wk sw w) (f : mj_F) (x1 : Int) (x2 : Int)  : mj_run yR_putBytes w f 3 [.inr (.inl 3), .inl x1, .inl x2] [] = if x2 < 0 then some (w, f, none) else if 900 ≤ (f 3 1) then some (w, f, none) else mj_gd (0 ≤ (f 3 1) ∧ (f 3 1) < ((900 : Nat) : Int)) (mj_run yR_putBytes w (mj_u (mj_u f 4 (f 3 1).toNat (mj_w8 (mj_w8 (mj_shr x1 x2)))) 3 1 (mj_w ((mj_u f 4 (f 3 1).toNat (mj_w8 (mj_w8 (mj_shr x1 x2))) 3 1) + 1))) 3 [.inr (.inl 3), .inl x1, .inl (mj_w (x2 + (-8)))] []) := by
  refine ms_iload_n (k := 2) (p' := 4) (by decide +kernel) rfl rfl ?_
  refine ms_if_lt (off := 42) (t := 46) (p' := 7) (by decide +kernel) rfl (fun hc => ?_) (fun hc => ?_)
  · exact ms_vret (by decide +kernel)
  · refine ms_aload_n (k := 0) (p' := 8) (by decide +kernel) rfl rfl ?_
    refine ms_geti (idx := 15) (ci := 4) (k := 1) (q := 313) (p' := 11) (by decide +kernel) rfl (k_3 hw) ?_
    refine ms_sipush (n := 900) (v := 900) (p' := 14) (by decide +kernel) rfl ?_
    refine ms_icmp_ge (off := 32) (t := 46) (p' := 17) (by decide +kernel) rfl (fun hc => ?_) (fun hc => ?_)
    · exact ms_vret (by decide +kernel)
    · refine ms_aload_n (k := 0) (p' := 18) (by decide +kernel) rfl rfl ?_
      refine ms_getr (idx := 9) (ci := 4) (k := 0) (q := 312) (p' := 21) (by decide +kernel) rfl (k_3 hw) (r_3_0 hw) (by decide) ?_
      refine ms_aload_n (k := 0) (p' := 22) (by decide +kernel) rfl rfl ?_
      refine ms_geti (idx := 15) (ci := 4) (k := 1) (q := 313) (p' := 25) (by decide +kernel) rfl (k_3 hw) ?_
      refine ms_iload_n (k := 1) (p' := 26) (by decide +kernel) rfl rfl ?_
      refine ms_iload_n (k := 2) (p' := 27) (by decide +kernel) rfl rfl ?_
      refine ms_ishr (p' := 28) (by decide +kernel) rfl ?_
      refine ms_i2b (p' := 29) (by decide +kernel) rfl ?_
      refine ms_bast (p' := 30) (by decide +kernel) rfl (k_4 hw) (fun hj1 => ?_)
      refine ms_aload_n (k := 0) (p' := 31) (by decide +kernel) rfl rfl ?_
      refine ms_dup_a (p' := 32) (by decide +kernel) rfl ?_
      refine ms_geti (idx := 15) (ci := 4) (k := 1) (q := 313) (p' := 35) (by decide +kernel) rfl (k_3 hw) ?_
      refine ms_iconst (n := 1) (v := 1) (p' := 36) (by decide +kernel) rfl ?_
      refine ms_iadd (p' := 37) (by decide +kernel) rfl ?_
      refine ms_puti (idx := 15) (ci := 4) (k := 1) (q := 313) (p' := 40) (by decide +kernel) rfl (k_3 hw) ?_
      refine ms_iinc (k := 2) (n := (-8)) (ls' := [.inr (.inl 3), .inl x1, .inl (mj_w (x2 + (-8)))]) (p' := 43) (by decide +kernel) rfl rfl rfl ?_
      refine ms_goto (off := (-40)) (p' := 3) (by decide +kernel) ?_
      rfl
theorem c_R_readWord {sw : Bool} {w : mj_W} (hw : wk sw w) (f : mj_F)   : mj_call yR_readWord w f [.inr (.inl 3)] = mj_run yR_readWord w (mj_u f 3 7 0) 5 [.inr (.inl 3)] [] := by
  show mj_run yR_readWord w f 0 [.inr (.inl 3)] [] = _
  refine ms_aload_n (k := 0) (p' := 1) (by decide +kernel) rfl rfl ?_
  refine ms_iconst (n := 0) (v := 0) (p' := 2) (by decide +kernel) rfl ?_
  refine ms_puti (idx := 38) (ci := 4) (k := 7) (q := 321) (p' := 5) (by decide +kernel) rfl (k_3 hw) ?_
  rfl
theorem l_R_readWord_5 {sw : Bool} {w : mj_W} (hw : wk sw w) (f : mj_F)   : mj_run yR_readWord w f 5 [.inr (.inl 3)] [] = if (f 3 3) ≤ (f 3 4) then if (mj_w ((mj_u f 3 5 1 3 4) - (mj_u f 3 5 1 3 6))) ≤ 6 then if ¬ (mj_u f 3 5 1 3 7) = 3554411 then if ¬ (mj_u f 3 5 1 3 7) = 17171557 then if ¬ (mj_u f 3 5 1 3 7) = 168165 then if ¬ (mj_u f 3 5 1 3 7) = 20579924 then if ¬ (mj_u f 3 5 1 3 7) = 762030 then if ¬ (mj_u f 3 5 1 3 7) = 19636 then some (w, (mj_u f 3 5 1), none) else some (w, (mj_u (mj_u f 3 5 1) 3 5 10), none) else some (w, (mj_u (mj_u f 3 5 1) 3 5 9), none) else some (w, (mj_u (mj_u f 3 5 1) 3 5 8), none) else some (w, (mj_u (mj_u f 3 5 1) 3 5 7), none) else some (w, (mj_u (mj_u f 3 5 1) 3 5 6), none) else some (w, (mj_u (mj_u f 3 5 1) 3 5 5), none) else some (w, (mj_u (mj_u f 3 5 1) 3 5 11), none) else mj_gd (0 ≤ (f 3 4) ∧ (f 3 4) < ((900 : Nat) : Int)) (if (f 4 (f 3 4).toNat) < 97 then if (mj_w ((mj_u f 3 5 1 3 4) - (mj_u f 3 5 1 3 6))) ≤ 6 then if ¬ (mj_u f 3 5 1 3 7) = 3554411 then if ¬ (mj_u f 3 5 1 3 7) = 17171557 then if ¬ (mj_u f 3 5 1 3 7) = 168165 then if ¬ (mj_u f 3 5 1 3 7) = 20579924 then if ¬ (mj_u f 3 5 1 3 7) = 762030 then if ¬ (mj_u f 3 5 1 3 7) = 19636 then some (w, (mj_u f 3 5 1), none) else some (w, (mj_u (mj_u f 3 5 1) 3 5 10), none) else some (w, (mj_u (mj_u f 3 5 1) 3 5 9), none) else some (w, (mj_u (mj_u f 3 5 1) 3 5 8), none) else some (w, (mj_u (mj_u f 3 5 1) 3 5 7), none) else some (w, (mj_u (mj_u f 3 5 1) 3 5 6), none) else some (w, (mj_u (mj_u f 3 5 1) 3 5 5), none) else some (w, (mj_u (mj_u f 3 5 1) 3 5 11), none) else mj_gd (0 ≤ (f 3 4) ∧ (f 3 4) < ((900 : Nat) : Int)) (if 122 < (f 4 (f 3 4).toNat) then if (mj_w ((mj_u f 3 5 1 3 4) - (mj_u f 3 5 1 3 6))) ≤ 6 then if ¬ (mj_u f 3 5 1 3 7) = 3554411 then if ¬ (mj_u f 3 5 1 3 7) = 17171557 then if ¬ (mj_u f 3 5 1 3 7) = 168165 then if ¬ (mj_u f 3 5 1 3 7) = 20579924 then if ¬ (mj_u f 3 5 1 3 7) = 762030 then if ¬ (mj_u f 3 5 1 3 7) = 19636 then some (w, (mj_u f 3 5 1), none) else some (w, (mj_u (mj_u f 3 5 1) 3 5 10), none) else some (w, (mj_u (mj_u f 3 5 1) 3 5 9), none) else some (w, (mj_u (mj_u f 3 5 1) 3 5 8), none) else some (w, (mj_u (mj_u f 3 5 1) 3 5 7), none) else some (w, (mj_u (mj_u f 3 5 1) 3 5 6), none) else some (w, (mj_u (mj_u f 3 5 1) 3 5 5), none) else some (w, (mj_u (mj_u f 3 5 1) 3 5 11), none) else mj_gd (0 ≤ (f 3 4) ∧ (f 3 4) < ((900 : Nat) : Int)) (mj_run yR_readWord w (mj_u (mj_u f 3 7 (mj_or (mj_shl (f 3 7) 5) (mj_and (f 4 (f 3 4).toNat) 31))) 3 4 (mj_w ((mj_u f 3 7 (mj_or (mj_shl (f 3 7) 5) (mj_and (f 4 (f 3 4).toNat) 31)) 3 4) + 1))) 5 [.inr (.inl 3)] []))) := by
  refine ms_aload_n (k := 0) (p' := 6) (by decide +kernel) rfl rfl ?_
  refine ms_geti (idx := 29) (ci := 4) (k := 4) (q := 318) (p' := 9) (by decide +kernel) rfl (k_3 hw) ?_
  refine ms_aload_n (k := 0) (p' := 10) (by decide +kernel) rfl rfl ?_
  refine ms_geti (idx := 26) (ci := 4) (k := 3) (q := 317) (p' := 13) (by decide +kernel) rfl (k_3 hw) ?_
  refine ms_icmp_ge (off := 67) (t := 80) (p' := 16) (by decide +kernel) rfl (fun hc => ?_) (fun hc => ?_)
  · refine ms_aload_n (k := 0) (p' := 81) (by decide +kernel) rfl rfl ?_
    refine ms_iconst (n := 1) (v := 1) (p' := 82) (by decide +kernel) rfl ?_
    refine ms_puti (idx := 32) (ci := 4) (k := 5) (q := 319) (p' := 85) (by decide +kernel) rfl (k_3 hw) ?_
    refine ms_aload_n (k := 0) (p' := 86) (by decide +kernel) rfl rfl ?_
    refine ms_geti (idx := 29) (ci := 4) (k := 4) (q := 318) (p' := 89) (by decide +kernel) rfl (k_3 hw) ?_
    refine ms_aload_n (k := 0) (p' := 90) (by decide +kernel) rfl rfl ?_
    refine ms_geti (idx := 35) (ci := 4) (k := 6) (q := 320) (p' := 93) (by decide +kernel) rfl (k_3 hw) ?_
    refine ms_isub (p' := 94) (by decide +kernel) rfl ?_
    refine ms_bipush (n := 6) (v := 6) (p' := 96) (by decide +kernel) rfl ?_
    refine ms_icmp_le (off := 12) (t := 108) (p' := 99) (by decide +kernel) rfl (fun hc => ?_) (fun hc => ?_)
    · refine ms_aload_n (k := 0) (p' := 109) (by decide +kernel) rfl rfl ?_
      refine ms_geti (idx := 38) (ci := 4) (k := 7) (q := 321) (p' := 112) (by decide +kernel) rfl (k_3 hw) ?_
      refine ms_ldc (idx := 163) (v := 3554411) (p' := 114) (by decide +kernel) rfl ?_
      refine ms_icmp_ne (off := 11) (t := 125) (p' := 117) (by decide +kernel) rfl (fun hc => ?_) (fun hc => ?_)
      · refine ms_aload_n (k := 0) (p' := 126) (by decide +kernel) rfl rfl ?_
        refine ms_geti (idx := 38) (ci := 4) (k := 7) (q := 321) (p' := 129) (by decide +kernel) rfl (k_3 hw) ?_
        refine ms_ldc (idx := 164) (v := 17171557) (p' := 131) (by decide +kernel) rfl ?_
        refine ms_icmp_ne (off := 12) (t := 143) (p' := 134) (by decide +kernel) rfl (fun hc => ?_) (fun hc => ?_)
        · refine ms_aload_n (k := 0) (p' := 144) (by decide +kernel) rfl rfl ?_
          refine ms_geti (idx := 38) (ci := 4) (k := 7) (q := 321) (p' := 147) (by decide +kernel) rfl (k_3 hw) ?_
          refine ms_ldc (idx := 165) (v := 168165) (p' := 149) (by decide +kernel) rfl ?_
          refine ms_icmp_ne (off := 12) (t := 161) (p' := 152) (by decide +kernel) rfl (fun hc => ?_) (fun hc => ?_)
          · refine ms_aload_n (k := 0) (p' := 162) (by decide +kernel) rfl rfl ?_
            refine ms_geti (idx := 38) (ci := 4) (k := 7) (q := 321) (p' := 165) (by decide +kernel) rfl (k_3 hw) ?_
            refine ms_ldc (idx := 166) (v := 20579924) (p' := 167) (by decide +kernel) rfl ?_
            refine ms_icmp_ne (off := 12) (t := 179) (p' := 170) (by decide +kernel) rfl (fun hc => ?_) (fun hc => ?_)
            · refine ms_aload_n (k := 0) (p' := 180) (by decide +kernel) rfl rfl ?_
              refine ms_geti (idx := 38) (ci := 4) (k := 7) (q := 321) (p' := 183) (by decide +kernel) rfl (k_3 hw) ?_
              refine ms_ldc (idx := 167) (v := 762030) (p' := 185) (by decide +kernel) rfl ?_
              refine ms_icmp_ne (off := 12) (t := 197) (p' := 188) (by decide +kernel) rfl (fun hc => ?_) (fun hc => ?_)
              · refine ms_aload_n (k := 0) (p' := 198) (by decide +kernel) rfl rfl ?_
                refine ms_geti (idx := 38) (ci := 4) (k := 7) (q := 321) (p' := 201) (by decide +kernel) rfl (k_3 hw) ?_
                refine ms_sipush (n := 19636) (v := 19636) (p' := 204) (by decide +kernel) rfl ?_
                refine ms_icmp_ne (off := 9) (t := 213) (p' := 207) (by decide +kernel) rfl (fun hc => ?_) (fun hc => ?_)
                · exact ms_vret (by decide +kernel)
                · refine ms_aload_n (k := 0) (p' := 208) (by decide +kernel) rfl rfl ?_
                  refine ms_bipush (n := 10) (v := 10) (p' := 210) (by decide +kernel) rfl ?_
                  refine ms_puti (idx := 32) (ci := 4) (k := 5) (q := 319) (p' := 213) (by decide +kernel) rfl (k_3 hw) ?_
                  exact ms_vret (by decide +kernel)
              · refine ms_aload_n (k := 0) (p' := 189) (by decide +kernel) rfl rfl ?_
                refine ms_bipush (n := 9) (v := 9) (p' := 191) (by decide +kernel) rfl ?_
                refine ms_puti (idx := 32) (ci := 4) (k := 5) (q := 319) (p' := 194) (by decide +kernel) rfl (k_3 hw) ?_
                refine ms_goto (off := 19) (p' := 213) (by decide +kernel) ?_
                exact ms_vret (by decide +kernel)
            · refine ms_aload_n (k := 0) (p' := 171) (by decide +kernel) rfl rfl ?_
              refine ms_bipush (n := 8) (v := 8) (p' := 173) (by decide +kernel) rfl ?_
              refine ms_puti (idx := 32) (ci := 4) (k := 5) (q := 319) (p' := 176) (by decide +kernel) rfl (k_3 hw) ?_
              refine ms_goto (off := 37) (p' := 213) (by decide +kernel) ?_
              exact ms_vret (by decide +kernel)
          · refine ms_aload_n (k := 0) (p' := 153) (by decide +kernel) rfl rfl ?_
            refine ms_bipush (n := 7) (v := 7) (p' := 155) (by decide +kernel) rfl ?_
            refine ms_puti (idx := 32) (ci := 4) (k := 5) (q := 319) (p' := 158) (by decide +kernel) rfl (k_3 hw) ?_
            refine ms_goto (off := 55) (p' := 213) (by decide +kernel) ?_
            exact ms_vret (by decide +kernel)
        · refine ms_aload_n (k := 0) (p' := 135) (by decide +kernel) rfl rfl ?_
          refine ms_bipush (n := 6) (v := 6) (p' := 137) (by decide +kernel) rfl ?_
          refine ms_puti (idx := 32) (ci := 4) (k := 5) (q := 319) (p' := 140) (by decide +kernel) rfl (k_3 hw) ?_
          refine ms_goto (off := 73) (p' := 213) (by decide +kernel) ?_
          exact ms_vret (by decide +kernel)
      · refine ms_aload_n (k := 0) (p' := 118) (by decide +kernel) rfl rfl ?_
        refine ms_iconst (n := 5) (v := 5) (p' := 119) (by decide +kernel) rfl ?_
        refine ms_puti (idx := 32) (ci := 4) (k := 5) (q := 319) (p' := 122) (by decide +kernel) rfl (k_3 hw) ?_
        refine ms_goto (off := 91) (p' := 213) (by decide +kernel) ?_
        exact ms_vret (by decide +kernel)
    · refine ms_aload_n (k := 0) (p' := 100) (by decide +kernel) rfl rfl ?_
      refine ms_bipush (n := 11) (v := 11) (p' := 102) (by decide +kernel) rfl ?_
      refine ms_puti (idx := 32) (ci := 4) (k := 5) (q := 319) (p' := 105) (by decide +kernel) rfl (k_3 hw) ?_
      refine ms_goto (off := 108) (p' := 213) (by decide +kernel) ?_
      exact ms_vret (by decide +kernel)
  · refine ms_aload_n (k := 0) (p' := 17) (by decide +kernel) rfl rfl ?_
    refine ms_getr (idx := 9) (ci := 4) (k := 0) (q := 312) (p' := 20) (by decide +kernel) rfl (k_3 hw) (r_3_0 hw) (by decide) ?_
    refine ms_aload_n (k := 0) (p' := 21) (by decide +kernel) rfl rfl ?_
    refine ms_geti (idx := 29) (ci := 4) (k := 4) (q := 318) (p' := 24) (by decide +kernel) rfl (k_3 hw) ?_
    refine ms_bald (p' := 25) (by decide +kernel) rfl (k_4 hw) (fun hj1 => ?_)
    refine ms_bipush (n := 97) (v := 97) (p' := 27) (by decide +kernel) rfl ?_
    refine ms_icmp_lt (off := 53) (t := 80) (p' := 30) (by decide +kernel) rfl (fun hc => ?_) (fun hc => ?_)
    · refine ms_aload_n (k := 0) (p' := 81) (by decide +kernel) rfl rfl ?_
      refine ms_iconst (n := 1) (v := 1) (p' := 82) (by decide +kernel) rfl ?_
      refine ms_puti (idx := 32) (ci := 4) (k := 5) (q := 319) (p' := 85) (by decide +kernel) rfl (k_3 hw) ?_
      refine ms_aload_n (k := 0) (p' := 86) (by decide +kernel) rfl rfl ?_
      refine ms_geti (idx := 29) (ci := 4) (k := 4) (q := 318) (p' := 89) (by decide +kernel) rfl (k_3 hw) ?_
      refine ms_aload_n (k := 0) (p' := 90) (by decide +kernel) rfl rfl ?_
      refine ms_geti (idx := 35) (ci := 4) (k := 6) (q := 320) (p' := 93) (by decide +kernel) rfl (k_3 hw) ?_
      refine ms_isub (p' := 94) (by decide +kernel) rfl ?_
      refine ms_bipush (n := 6) (v := 6) (p' := 96) (by decide +kernel) rfl ?_
      refine ms_icmp_le (off := 12) (t := 108) (p' := 99) (by decide +kernel) rfl (fun hc => ?_) (fun hc => ?_)
      · refine ms_aload_n (k := 0) (p' := 109) (by decide +kernel) rfl rfl ?_
        refine ms_geti (idx := 38) (ci := 4) (k := 7) (q := 321) (p' := 112) (by decide +kernel) rfl (k_3 hw) ?_
        refine ms_ldc (idx := 163) (v := 3554411) (p' := 114) (by decide +kernel) rfl ?_
        refine ms_icmp_ne (off := 11) (t := 125) (p' := 117) (by decide +kernel) rfl (fun hc => ?_) (fun hc => ?_)
        · refine ms_aload_n (k := 0) (p' := 126) (by decide +kernel) rfl rfl ?_
          refine ms_geti (idx := 38) (ci := 4) (k := 7) (q := 321) (p' := 129) (by decide +kernel) rfl (k_3 hw) ?_
          refine ms_ldc (idx := 164) (v := 17171557) (p' := 131) (by decide +kernel) rfl ?_
          refine ms_icmp_ne (off := 12) (t := 143) (p' := 134) (by decide +kernel) rfl (fun hc => ?_) (fun hc => ?_)
          · refine ms_aload_n (k := 0) (p' := 144) (by decide +kernel) rfl rfl ?_
            refine ms_geti (idx := 38) (ci := 4) (k := 7) (q := 321) (p' := 147) (by decide +kernel) rfl (k_3 hw) ?_
            refine ms_ldc (idx := 165) (v := 168165) (p' := 149) (by decide +kernel) rfl ?_
            refine ms_icmp_ne (off := 12) (t := 161) (p' := 152) (by decide +kernel) rfl (fun hc => ?_) (fun hc => ?_)
            · refine ms_aload_n (k := 0) (p' := 162) (by decide +kernel) rfl rfl ?_
              refine ms_geti (idx := 38) (ci := 4) (k := 7) (q := 321) (p' := 165) (by decide +kernel) rfl (k_3 hw) ?_
              refine ms_ldc (idx := 166) (v := 20579924) (p' := 167) (by decide +kernel) rfl ?_
              refine ms_icmp_ne (off := 12) (t := 179) (p' := 170) (by decide +kernel) rfl (fun hc => ?_) (fun hc => ?_)
              · refine ms_aload_n (k := 0) (p' := 180) (by decide +kernel) rfl rfl ?_
                refine ms_geti (idx := 38) (ci := 4) (k := 7) (q := 321) (p' := 183) (by decide +kernel) rfl (k_3 hw) ?_
                refine ms_ldc (idx := 167) (v := 762030) (p' := 185) (by decide +kernel) rfl ?_
                refine ms_icmp_ne (off := 12) (t := 197) (p' := 188) (by decide +kernel) rfl (fun hc => ?_) (fun hc => ?_)
                · refine ms_aload_n (k := 0) (p' := 198) (by decide +kernel) rfl rfl ?_
                  refine ms_geti (idx := 38) (ci := 4) (k := 7) (q := 321) (p' := 201) (by decide +kernel) rfl (k_3 hw) ?_
                  refine ms_sipush (n := 19636) (v := 19636) (p' := 204) (by decide +kernel) rfl ?_
                  refine ms_icmp_ne (off := 9) (t := 213) (p' := 207) (by decide +kernel) rfl (fun hc => ?_) (fun hc => ?_)
                  · exact ms_vret (by decide +kernel)
                  · refine ms_aload_n (k := 0) (p' := 208) (by decide +kernel) rfl rfl ?_
                    refine ms_bipush (n := 10) (v := 10) (p' := 210) (by decide +kernel) rfl ?_
                    refine ms_puti (idx := 32) (ci := 4) (k := 5) (q := 319) (p' := 213) (by decide +kernel) rfl (k_3 hw) ?_
                    exact ms_vret (by decide +kernel)
                · refine ms_aload_n (k := 0) (p' := 189) (by decide +kernel) rfl rfl ?_
                  refine ms_bipush (n := 9) (v := 9) (p' := 191) (by decide +kernel) rfl ?_
                  refine ms_puti (idx := 32) (ci := 4) (k := 5) (q := 319) (p' := 194) (by decide +kernel) rfl (k_3 hw) ?_
                  refine ms_goto (off := 19) (p' := 213) (by decide +kernel) ?_
                  exact ms_vret (by decide +kernel)
              · refine ms_aload_n (k := 0) (p' := 171) (by decide +kernel) rfl rfl ?_
                refine ms_bipush (n := 8) (v := 8) (p' := 173) (by decide +kernel) rfl ?_
                refine ms_puti (idx := 32) (ci := 4) (k := 5) (q := 319) (p' := 176) (by decide +kernel) rfl (k_3 hw) ?_
                refine ms_goto (off := 37) (p' := 213) (by decide +kernel) ?_
                exact ms_vret (by decide +kernel)
            · refine ms_aload_n (k := 0) (p' := 153) (by decide +kernel) rfl rfl ?_
              refine ms_bipush (n := 7) (v := 7) (p' := 155) (by decide +kernel) rfl ?_
              refine ms_puti (idx := 32) (ci := 4) (k := 5) (q := 319) (p' := 158) (by decide +kernel) rfl (k_3 hw) ?_
              refine ms_goto (off := 55) (p' := 213) (by decide +kernel) ?_
              exact ms_vret (by decide +kernel)
          · refine ms_aload_n (k := 0) (p' := 135) (by decide +kernel) rfl rfl ?_
            refine ms_bipush (n := 6) (v := 6) (p' := 137) (by decide +kernel) rfl ?_
            refine ms_puti (idx := 32) (ci := 4) (k := 5) (q := 319) (p' := 140) (by decide +kernel) rfl (k_3 hw) ?_
            refine ms_goto (off := 73) (p' := 213) (by decide +kernel) ?_
            exact ms_vret (by decide +kernel)
        · refine ms_aload_n (k := 0) (p' := 118) (by decide +kernel) rfl rfl ?_
          refine ms_iconst (n := 5) (v := 5) (p' := 119) (by decide +kernel) rfl ?_
          refine ms_puti (idx := 32) (ci := 4) (k := 5) (q := 319) (p' := 122) (by decide +kernel) rfl (k_3 hw) ?_
          refine ms_goto (off := 91) (p' := 213) (by decide +kernel) ?_
          exact ms_vret (by decide +kernel)
      · refine ms_aload_n (k := 0) (p' := 100) (by decide +kernel) rfl rfl ?_
        refine ms_bipush (n := 11) (v := 11) (p' := 102) (by decide +kernel) rfl ?_
        refine ms_puti (idx := 32) (ci := 4) (k := 5) (q := 319) (p' := 105) (by decide +kernel) rfl (k_3 hw) ?_
        refine ms_goto (off := 108) (p' := 213) (by decide +kernel) ?_
        exact ms_vret (by decide +kernel)
    · refine ms_aload_n (k := 0) (p' := 31) (by decide +kernel) rfl rfl ?_
      refine ms_getr (idx := 9) (ci := 4) (k := 0) (q := 312) (p' := 34) (by decide +kernel) rfl (k_3 hw) (r_3_0 hw) (by decide) ?_
      refine ms_aload_n (k := 0) (p' := 35) (by decide +kernel) rfl rfl ?_
      refine ms_geti (idx := 29) (ci := 4) (k := 4) (q := 318) (p' := 38) (by decide +kernel) rfl (k_3 hw) ?_
      refine ms_bald (p' := 39) (by decide +kernel) rfl (k_4 hw) (fun hj2 => ?_)
      refine ms_bipush (n := 122) (v := 122) (p' := 41) (by decide +kernel) rfl ?_
      refine ms_icmp_gt (off := 39) (t := 80) (p' := 44) (by decide +kernel) rfl (fun hc => ?_) (fun hc => ?_)
      · refine ms_aload_n (k := 0) (p' := 81) (by decide +kernel) rfl rfl ?_
        refine ms_iconst (n := 1) (v := 1) (p' := 82) (by decide +kernel) rfl ?_
        refine ms_puti (idx := 32) (ci := 4) (k := 5) (q := 319) (p' := 85) (by decide +kernel) rfl (k_3 hw) ?_
        refine ms_aload_n (k := 0) (p' := 86) (by decide +kernel) rfl rfl ?_
        refine ms_geti (idx := 29) (ci := 4) (k := 4) (q := 318) (p' := 89) (by decide +kernel) rfl (k_3 hw) ?_
        refine ms_aload_n (k := 0) (p' := 90) (by decide +kernel) rfl rfl ?_
        refine ms_geti (idx := 35) (ci := 4) (k := 6) (q := 320) (p' := 93) (by decide +kernel) rfl (k_3 hw) ?_
        refine ms_isub (p' := 94) (by decide +kernel) rfl ?_
        refine ms_bipush (n := 6) (v := 6) (p' := 96) (by decide +kernel) rfl ?_
        refine ms_icmp_le (off := 12) (t := 108) (p' := 99) (by decide +kernel) rfl (fun hc => ?_) (fun hc => ?_)
        · refine ms_aload_n (k := 0) (p' := 109) (by decide +kernel) rfl rfl ?_
          refine ms_geti (idx := 38) (ci := 4) (k := 7) (q := 321) (p' := 112) (by decide +kernel) rfl (k_3 hw) ?_
          refine ms_ldc (idx := 163) (v := 3554411) (p' := 114) (by decide +kernel) rfl ?_
          refine ms_icmp_ne (off := 11) (t := 125) (p' := 117) (by decide +kernel) rfl (fun hc => ?_) (fun hc => ?_)
          · refine ms_aload_n (k := 0) (p' := 126) (by decide +kernel) rfl rfl ?_
            refine ms_geti (idx := 38) (ci := 4) (k := 7) (q := 321) (p' := 129) (by decide +kernel) rfl (k_3 hw) ?_
            refine ms_ldc (idx := 164) (v := 17171557) (p' := 131) (by decide +kernel) rfl ?_
            refine ms_icmp_ne (off := 12) (t := 143) (p' := 134) (by decide +kernel) rfl (fun hc => ?_) (fun hc => ?_)
            · refine ms_aload_n (k := 0) (p' := 144) (by decide +kernel) rfl rfl ?_
              refine ms_geti (idx := 38) (ci := 4) (k := 7) (q := 321) (p' := 147) (by decide +kernel) rfl (k_3 hw) ?_
              refine ms_ldc (idx := 165) (v := 168165) (p' := 149) (by decide +kernel) rfl ?_
              refine ms_icmp_ne (off := 12) (t := 161) (p' := 152) (by decide +kernel) rfl (fun hc => ?_) (fun hc => ?_)
              · refine ms_aload_n (k := 0) (p' := 162) (by decide +kernel) rfl rfl ?_
                refine ms_geti (idx := 38) (ci := 4) (k := 7) (q := 321) (p' := 165) (by decide +kernel) rfl (k_3 hw) ?_
                refine ms_ldc (idx := 166) (v := 20579924) (p' := 167) (by decide +kernel) rfl ?_
                refine ms_icmp_ne (off := 12) (t := 179) (p' := 170) (by decide +kernel) rfl (fun hc => ?_) (fun hc => ?_)
                · refine ms_aload_n (k := 0) (p' := 180) (by decide +kernel) rfl rfl ?_
                  refine ms_geti (idx := 38) (ci := 4) (k := 7) (q := 321) (p' := 183) (by decide +kernel) rfl (k_3 hw) ?_
                  refine ms_ldc (idx := 167) (v := 762030) (p' := 185) (by decide +kernel) rfl ?_
                  refine ms_icmp_ne (off := 12) (t := 197) (p' := 188) (by decide +kernel) rfl (fun hc => ?_) (fun hc => ?_)
                  · refine ms_aload_n (k := 0) (p' := 198) (by decide +kernel) rfl rfl ?_
                    refine ms_geti (idx := 38) (ci := 4) (k := 7) (q := 321) (p' := 201) (by decide +kernel) rfl (k_3 hw) ?_
                    refine ms_sipush (n := 19636) (v := 19636) (p' := 204) (by decide +kernel) rfl ?_
                    refine ms_icmp_ne (off := 9) (t := 213) (p' := 207) (by decide +kernel) rfl (fun hc => ?_) (fun hc => ?_)
                    · exact ms_vret (by decide +kernel)
                    · refine ms_aload_n (k := 0) (p' := 208) (by decide +kernel) rfl rfl ?_
                      refine ms_bipush (n := 10) (v := 10) (p' := 210) (by decide +kernel) rfl ?_
                      refine ms_puti (idx := 32) (ci := 4) (k := 5) (q := 319) (p' := 213) (by decide +kernel) rfl (k_3 hw) ?_
                      exact ms_vret (by decide +kernel)
                  · refine ms_aload_n (k := 0) (p' := 189) (by decide +kernel) rfl rfl ?_
                    refine ms_bipush (n := 9) (v := 9) (p' := 191) (by decide +kernel) rfl ?_
                    refine ms_puti (idx := 32) (ci := 4) (k := 5) (q := 319) (p' := 194) (by decide +kernel) rfl (k_3 hw) ?_
                    refine ms_goto (off := 19) (p' := 213) (by decide +kernel) ?_
                    exact ms_vret (by decide +kernel)
                · refine ms_aload_n (k := 0) (p' := 171) (by decide +kernel) rfl rfl ?_
                  refine ms_bipush (n := 8) (v := 8) (p' := 173) (by decide +kernel) rfl ?_
                  refine ms_puti (idx := 32) (ci := 4) (k := 5) (q := 319) (p' := 176) (by decide +kernel) rfl (k_3 hw) ?_
                  refine ms_goto (off := 37) (p' := 213) (by decide +kernel) ?_
                  exact ms_vret (by decide +kernel)
              · refine ms_aload_n (k := 0) (p' := 153) (by decide +kernel) rfl rfl ?_
                refine ms_bipush (n := 7) (v := 7) (p' := 155) (by decide +kernel) rfl ?_
                refine ms_puti (idx := 32) (ci := 4) (k := 5) (q := 319) (p' := 158) (by decide +kernel) rfl (k_3 hw) ?_
                refine ms_goto (off := 55) (p' := 213) (by decide +kernel) ?_
                exact ms_vret (by decide +kernel)
            · refine ms_aload_n (k := 0) (p' := 135) (by decide +kernel) rfl rfl ?_
              refine ms_bipush (n := 6) (v := 6) (p' := 137) (by decide +kernel) rfl ?_
              refine ms_puti (idx := 32) (ci := 4) (k := 5) (q := 319) (p' := 140) (by decide +kernel) rfl (k_3 hw) ?_
              refine ms_goto (off := 73) (p' := 213) (by decide +kernel) ?_
              exact ms_vret (by decide +kernel)
          · refine ms_aload_n (k := 0) (p' := 118) (by decide +kernel) rfl rfl ?_
            refine ms_iconst (n := 5) (v := 5) (p' := 119) (by decide +kernel) rfl ?_
            refine ms_puti (idx := 32) (ci := 4) (k := 5) (q := 319) (p' := 122) (by decide +kernel) rfl (k_3 hw) ?_
            refine ms_goto (off := 91) (p' := 213) (by decide +kernel) ?_
            exact ms_vret (by decide +kernel)
        · refine ms_aload_n (k := 0) (p' := 100) (by decide +kernel) rfl rfl ?_
          refine ms_bipush (n := 11) (v := 11) (p' := 102) (by decide +kernel) rfl ?_
          refine ms_puti (idx := 32) (ci := 4) (k := 5) (q := 319) (p' := 105) (by decide +kernel) rfl (k_3 hw) ?_
          refine ms_goto (off := 108) (p' := 213) (by decide +kernel) ?_
          exact ms_vret (by decide +kernel)
      · refine ms_aload_n (k := 0) (p' := 45) (by decide +kernel) rfl rfl ?_
        refine ms_aload_n (k := 0) (p' := 46) (by decide +kernel) rfl rfl ?_
        refine ms_geti (idx := 38) (ci := 4) (k := 7) (q := 321) (p' := 49) (by decide +kernel) rfl (k_3 hw) ?_
        refine ms_iconst (n := 5) (v := 5) (p' := 50) (by decide +kernel) rfl ?_
        refine ms_ishl (p' := 51) (by decide +kernel) rfl ?_
        refine ms_aload_n (k := 0) (p' := 52) (by decide +kernel) rfl rfl ?_
        refine ms_getr (idx := 9) (ci := 4) (k := 0) (q := 312) (p' := 55) (by decide +kernel) rfl (k_3 hw) (r_3_0 hw) (by decide) ?_
        refine ms_aload_n (k := 0) (p' := 56) (by decide +kernel) rfl rfl ?_
        refine ms_geti (idx := 29) (ci := 4) (k := 4) (q := 318) (p' := 59) (by decide +kernel) rfl (k_3 hw) ?_
        refine ms_bald (p' := 60) (by decide +kernel) rfl (k_4 hw) (fun hj3 => ?_)
        refine ms_bipush (n := 31) (v := 31) (p' := 62) (by decide +kernel) rfl ?_
        refine ms_iand (p' := 63) (by decide +kernel) rfl ?_
        refine ms_ior (p' := 64) (by decide +kernel) rfl ?_
        refine ms_puti (idx := 38) (ci := 4) (k := 7) (q := 321) (p' := 67) (by decide +kernel) rfl (k_3 hw) ?_
        refine ms_aload_n (k := 0) (p' := 68) (by decide +kernel) rfl rfl ?_
        refine ms_dup_a (p' := 69) (by decide +kernel) rfl ?_
        refine ms_geti (idx := 29) (ci := 4) (k := 4) (q := 318) (p' := 72) (by decide +kernel) rfl (k_3 hw) ?_
        refine ms_iconst (n := 1) (v := 1) (p' := 73) (by decide +kernel) rfl ?_
        refine ms_iadd (p' := 74) (by decide +kernel) rfl ?_
        refine ms_puti (idx := 29) (ci := 4) (k := 4) (q := 318) (p' := 77) (by decide +kernel) rfl (k_3 hw) ?_
        refine ms_goto (off := (-72)) (p' := 5) (by decide +kernel) ?_
        rfl
theorem c_R_readDigits {sw : Bool} {w : mj_W} (hw : wk sw w) (f : mj_F)   : mj_call yR_readDigits w f [.inr (.inl 3)] = mj_run yR_readDigits w (mj_u (mj_u f 3 5 2) 3 7 0) 10 [.inr (.inl 3)] [] := by
  show mj_run yR_readDigits w f 0 [.inr (.inl 3)] [] = _
  refine ms_aload_n (k := 0) (p' := 1) (by decide +kernel) rfl rfl ?_
  refine ms_iconst (n := 2) (v := 2) (p' := 2) (by decide +kernel) rfl ?_
  refine ms_puti (idx := 32) (ci := 4) (k := 5) (q := 319) (p' := 5) (by decide +kernel) rfl (k_3 hw) ?_
  refine ms_aload_n (k := 0) (p' := 6) (by decide +kernel) rfl rfl ?_
  refine ms_iconst (n := 0) (v := 0) (p' := 7) (by decide +kernel) rfl ?_
  refine ms_puti (idx := 38) (ci := 4) (k := 7) (q := 321) (p' := 10) (by decide +kernel) rfl (k_3 hw) ?_
  rfl
theorem l_R_readDigits_10 {sw : Bool} {w : mj_W} (hw : wk sw w) (f : mj_F)   : mj_run yR_readDigits w f 10 [.inr (.inl 3)] [] = if (f 3 3) ≤ (f 3 4) then some (w, f, none) else mj_gd (0 ≤ (f 3 4) ∧ (f 3 4) < ((900 : Nat) : Int)) (if (f 4 (f 3 4).toNat) < 48 then some (w, f, none) else mj_gd (0 ≤ (f 3 4) ∧ (f 3 4) < ((900 : Nat) : Int)) (if 57 < (f 4 (f 3 4).toNat) then some (w, f, none) else mj_gd (0 ≤ (f 3 4) ∧ (f 3 4) < ((900 : Nat) : Int)) (mj_run yR_readDigits w (mj_u (mj_u f 3 7 (if 51 < (mj_w ((mj_w ((mj_w ((f 3 7) * 10)) + (f 4 (f 3 4).toNat))) - 48)) then 51 else (mj_w ((mj_w ((mj_w ((f 3 7) * 10)) + (f 4 (f 3 4).toNat))) - 48)))) 3 4 (mj_w ((mj_u f 3 7 (if 51 < (mj_w ((mj_w ((mj_w ((f 3 7) * 10)) + (f 4 (f 3 4).toNat))) - 48)) then 51 else (mj_w ((mj_w ((mj_w ((f 3 7) * 10)) + (f 4 (f 3 4).toNat))) - 48))) 3 4) + 1))) 10 [.inr (.inl 3)] []))) := by
  refine ms_aload_n (k := 0) (p' := 11) (by decide +kernel) rfl rfl ?_
  refine ms_geti (idx := 29) (ci := 4) (k := 4) (q := 318) (p' := 14) (by decide +kernel) rfl (k_3 hw) ?_
  refine ms_aload_n (k := 0) (p' := 15) (by decide +kernel) rfl rfl ?_
  refine ms_geti (idx := 26) (ci := 4) (k := 3) (q := 317) (p' := 18) (by decide +kernel) rfl (k_3 hw) ?_
  refine ms_icmp_ge (off := 73) (t := 91) (p' := 21) (by decide +kernel) rfl (fun hc => ?_) (fun hc => ?_)
  · exact ms_vret (by decide +kernel)
  · refine ms_aload_n (k := 0) (p' := 22) (by decide +kernel) rfl rfl ?_
    refine ms_getr (idx := 9) (ci := 4) (k := 0) (q := 312) (p' := 25) (by decide +kernel) rfl (k_3 hw) (r_3_0 hw) (by decide) ?_
    refine ms_aload_n (k := 0) (p' := 26) (by decide +kernel) rfl rfl ?_
    refine ms_geti (idx := 29) (ci := 4) (k := 4) (q := 318) (p' := 29) (by decide +kernel) rfl (k_3 hw) ?_
    refine ms_bald (p' := 30) (by decide +kernel) rfl (k_4 hw) (fun hj1 => ?_)
    refine ms_bipush (n := 48) (v := 48) (p' := 32) (by decide +kernel) rfl ?_
    refine ms_icmp_lt (off := 59) (t := 91) (p' := 35) (by decide +kernel) rfl (fun hc => ?_) (fun hc => ?_)
    · exact ms_vret (by decide +kernel)
    · refine ms_aload_n (k := 0) (p' := 36) (by decide +kernel) rfl rfl ?_
      refine ms_getr (idx := 9) (ci := 4) (k := 0) (q := 312) (p' := 39) (by decide +kernel) rfl (k_3 hw) (r_3_0 hw) (by decide) ?_
      refine ms_aload_n (k := 0) (p' := 40) (by decide +kernel) rfl rfl ?_
      refine ms_geti (idx := 29) (ci := 4) (k := 4) (q := 318) (p' := 43) (by decide +kernel) rfl (k_3 hw) ?_
      refine ms_bald (p' := 44) (by decide +kernel) rfl (k_4 hw) (fun hj2 => ?_)
      refine ms_bipush (n := 57) (v := 57) (p' := 46) (by decide +kernel) rfl ?_
      refine ms_icmp_gt (off := 45) (t := 91) (p' := 49) (by decide +kernel) rfl (fun hc => ?_) (fun hc => ?_)
      · exact ms_vret (by decide +kernel)
      · refine ms_aload_n (k := 0) (p' := 50) (by decide +kernel) rfl rfl ?_
        refine ms_aload_n (k := 0) (p' := 51) (by decide +kernel) rfl rfl ?_
        refine ms_geti (idx := 38) (ci := 4) (k := 7) (q := 321) (p' := 54) (by decide +kernel) rfl (k_3 hw) ?_
        refine ms_bipush (n := 10) (v := 10) (p' := 56) (by decide +kernel) rfl ?_
        refine ms_imul (p' := 57) (by decide +kernel) rfl ?_
        refine ms_aload_n (k := 0) (p' := 58) (by decide +kernel) rfl rfl ?_
        refine ms_getr (idx := 9) (ci := 4) (k := 0) (q := 312) (p' := 61) (by decide +kernel) rfl (k_3 hw) (r_3_0 hw) (by decide) ?_
        refine ms_aload_n (k := 0) (p' := 62) (by decide +kernel) rfl rfl ?_
        refine ms_geti (idx := 29) (ci := 4) (k := 4) (q := 318) (p' := 65) (by decide +kernel) rfl (k_3 hw) ?_
        refine ms_bald (p' := 66) (by decide +kernel) rfl (k_4 hw) (fun hj3 => ?_)
        refine ms_iadd (p' := 67) (by decide +kernel) rfl ?_
        refine ms_bipush (n := 48) (v := 48) (p' := 69) (by decide +kernel) rfl ?_
        refine ms_isub (p' := 70) (by decide +kernel) rfl ?_
        refine ms_bipush (n := 51) (v := 51) (p' := 72) (by decide +kernel) rfl ?_
        refine ms_math2 (idx := 50) (k := 13) (x := 0) (q := 573) (v := (if 51 < (mj_w ((mj_w ((mj_w ((f 3 7) * 10)) + (f 4 (f 3 4).toNat))) - 48)) then 51 else (mj_w ((mj_w ((mj_w ((f 3 7) * 10)) + (f 4 (f 3 4).toNat))) - 48)))) (p' := 75) (by decide +kernel) (Or.inr ⟨rfl, rfl⟩) rfl rfl ?_
        refine ms_puti (idx := 38) (ci := 4) (k := 7) (q := 321) (p' := 78) (by decide +kernel) rfl (k_3 hw) ?_
        refine ms_aload_n (k := 0) (p' := 79) (by decide +kernel) rfl rfl ?_
        refine ms_dup_a (p' := 80) (by decide +kernel) rfl ?_
        refine ms_geti (idx := 29) (ci := 4) (k := 4) (q := 318) (p' := 83) (by decide +kernel) rfl (k_3 hw) ?_
        refine ms_iconst (n := 1) (v := 1) (p' := 84) (by decide +kernel) rfl ?_
        refine ms_iadd (p' := 85) (by decide +kernel) rfl ?_
        refine ms_puti (idx := 29) (ci := 4) (k := 4) (q := 318) (p' := 88) (by decide +kernel) rfl (k_3 hw) ?_
        refine ms_goto (off := (-78)) (p' := 10) (by decide +kernel) ?_
        rfl
theorem c_R_readSign {sw : Bool} {w : mj_W} (hw : wk sw w) (f : mj_F)   : mj_call yR_readSign w f [.inr (.inl 3)] = mj_gd (0 ≤ (f 3 4) ∧ (f 3 4) < ((900 : Nat) : Int)) (if (mj_u f 3 4 (mj_w ((f 3 4) + 1)) 3 3) ≤ (mj_u f 3 4 (mj_w ((f 3 4) + 1)) 3 4) then mj_run yR_readSign w (mj_u f 3 4 (mj_w ((f 3 4) + 1))) 49 [.inr (.inl 3), .inl (f 4 (f 3 4).toNat), .inr (.inr (.inr 0))] [] else mj_gd (0 ≤ (mj_u f 3 4 (mj_w ((f 3 4) + 1)) 3 4) ∧ (mj_u f 3 4 (mj_w ((f 3 4) + 1)) 3 4) < ((900 : Nat) : Int)) (if ¬ ((mj_u f 3 4 (mj_w ((f 3 4) + 1))) 4 (mj_u f 3 4 (mj_w ((f 3 4) + 1)) 3 4).toNat) = 61 then mj_run yR_readSign w (mj_u f 3 4 (mj_w ((f 3 4) + 1))) 49 [.inr (.inl 3), .inl (f 4 (f 3 4).toNat), .inr (.inr (.inr 0))] [] else mj_run yR_readSign w (mj_u f 3 4 (mj_w ((f 3 4) + 1))) 50 [.inr (.inl 3), .inl (f 4 (f 3 4).toNat), .inr (.inr (.inr 0))] [.inl 1])) := by
  show mj_run yR_readSign w f 0 [.inr (.inl 3), .inr (.inr (.inr 0)), .inr (.inr (.inr 0))] [] = _
  refine ms_aload_n (k := 0) (p' := 1) (by decide +kernel) rfl rfl ?_
  refine ms_getr (idx := 9) (ci := 4) (k := 0) (q := 312) (p' := 4) (by decide +kernel) rfl (k_3 hw) (r_3_0 hw) (by decide) ?_
  refine ms_aload_n (k := 0) (p' := 5) (by decide +kernel) rfl rfl ?_
  refine ms_geti (idx := 29) (ci := 4) (k := 4) (q := 318) (p' := 8) (by decide +kernel) rfl (k_3 hw) ?_
  refine ms_bald (p' := 9) (by decide +kernel) rfl (k_4 hw) (fun hj1 => ?_)
  refine ms_istore_n (k := 1) (ls' := [.inr (.inl 3), .inl (f 4 (f 3 4).toNat), .inr (.inr (.inr 0))]) (p' := 10) (by decide +kernel) rfl (Nat.le_of_ble_eq_true rfl) rfl ?_
  refine ms_aload_n (k := 0) (p' := 11) (by decide +kernel) rfl rfl ?_
  refine ms_dup_a (p' := 12) (by decide +kernel) rfl ?_
  refine ms_geti (idx := 29) (ci := 4) (k := 4) (q := 318) (p' := 15) (by decide +kernel) rfl (k_3 hw) ?_
  refine ms_iconst (n := 1) (v := 1) (p' := 16) (by decide +kernel) rfl ?_
  refine ms_iadd (p' := 17) (by decide +kernel) rfl ?_
  refine ms_puti (idx := 29) (ci := 4) (k := 4) (q := 318) (p' := 20) (by decide +kernel) rfl (k_3 hw) ?_
  refine ms_aload_n (k := 0) (p' := 21) (by decide +kernel) rfl rfl ?_
  refine ms_geti (idx := 29) (ci := 4) (k := 4) (q := 318) (p' := 24) (by decide +kernel) rfl (k_3 hw) ?_
  refine ms_aload_n (k := 0) (p' := 25) (by decide +kernel) rfl rfl ?_
  refine ms_geti (idx := 26) (ci := 4) (k := 3) (q := 317) (p' := 28) (by decide +kernel) rfl (k_3 hw) ?_
  refine ms_icmp_ge (off := 21) (t := 49) (p' := 31) (by decide +kernel) rfl (fun hc => ?_) (fun hc => ?_)
  · rfl
  · refine ms_aload_n (k := 0) (p' := 32) (by decide +kernel) rfl rfl ?_
    refine ms_getr (idx := 9) (ci := 4) (k := 0) (q := 312) (p' := 35) (by decide +kernel) rfl (k_3 hw) (r_3_0 hw) (by decide) ?_
    refine ms_aload_n (k := 0) (p' := 36) (by decide +kernel) rfl rfl ?_
    refine ms_geti (idx := 29) (ci := 4) (k := 4) (q := 318) (p' := 39) (by decide +kernel) rfl (k_3 hw) ?_
    refine ms_bald (p' := 40) (by decide +kernel) rfl (k_4 hw) (fun hj2 => ?_)
    refine ms_bipush (n := 61) (v := 61) (p' := 42) (by decide +kernel) rfl ?_
    refine ms_icmp_ne (off := 7) (t := 49) (p' := 45) (by decide +kernel) rfl (fun hc => ?_) (fun hc => ?_)
    · rfl
    · refine ms_iconst (n := 1) (v := 1) (p' := 46) (by decide +kernel) rfl ?_
      refine ms_goto (off := 4) (p' := 50) (by decide +kernel) ?_
      rfl
theorem l_R_readSign_49 {sw : Bool} {w : mj_W} (hw : wk sw w) (f : mj_F) (x1 : Int)  : mj_run yR_readSign w f 49 [.inr (.inl 3), .inl x1, .inr (.inr (.inr 0))] [] = mj_run yR_readSign w f 50 [.inr (.inl 3), .inl x1, .inr (.inr (.inr 0))] [.inl 0] := by
  refine ms_iconst (n := 0) (v := 0) (p' := 50) (by decide +kernel) rfl ?_
  rfl
theorem l_R_readSign_50 {sw : Bool} {w : mj_W} (hw : wk sw w) (f : mj_F) (x1 : Int) (xs0 : Int)  : mj_run yR_readSign w f 50 [.inr (.inl 3), .inl x1, .inr (.inr (.inr 0))] [.inl xs0] = if ¬ x1 = 59 then if ¬ x1 = 61 then if ¬ x1 = 60 then if ¬ x1 = 62 then mj_run yR_readSign w (mj_u (mj_u f 3 5 3) 3 5 11) 170 [.inr (.inl 3), .inl x1, .inl xs0] [] else if xs0 = 0 then mj_run yR_readSign w (mj_u f 3 5 3) 140 [.inr (.inl 3), .inl x1, .inl xs0] [.inl 4, .inr (.inl 3)] else mj_run yR_readSign w (mj_u f 3 5 3) 140 [.inr (.inl 3), .inl x1, .inl xs0] [.inl 3, .inr (.inl 3)] else if xs0 = 0 then mj_run yR_readSign w (mj_u f 3 5 3) 100 [.inr (.inl 3), .inl x1, .inl xs0] [.inl 0, .inr (.inl 3)] else mj_run yR_readSign w (mj_u f 3 5 3) 100 [.inr (.inl 3), .inl x1, .inl xs0] [.inl 1, .inr (.inl 3)] else mj_run yR_readSign w (mj_u (mj_u f 3 5 3) 3 7 2) 170 [.inr (.inl 3), .inl x1, .inl xs0] [] else mj_run yR_readSign w (mj_u (mj_u f 3 5 3) 3 5 4) 170 [.inr (.inl 3), .inl x1, .inl xs0] [] := by
  refine ms_istore_n (k := 2) (ls' := [.inr (.inl 3), .inl x1, .inl xs0]) (p' := 51) (by decide +kernel) rfl (Nat.le_of_ble_eq_true rfl) rfl ?_
  refine ms_aload_n (k := 0) (p' := 52) (by decide +kernel) rfl rfl ?_
  refine ms_iconst (n := 3) (v := 3) (p' := 53) (by decide +kernel) rfl ?_
  refine ms_puti (idx := 32) (ci := 4) (k := 5) (q := 319) (p' := 56) (by decide +kernel) rfl (k_3 hw) ?_
  refine ms_iload_n (k := 1) (p' := 57) (by decide +kernel) rfl rfl ?_
  refine ms_bipush (n := 59) (v := 59) (p' := 59) (by decide +kernel) rfl ?_
  refine ms_icmp_ne (off := 11) (t := 70) (p' := 62) (by decide +kernel) rfl (fun hc => ?_) (fun hc => ?_)
  · refine ms_iload_n (k := 1) (p' := 71) (by decide +kernel) rfl rfl ?_
    refine ms_bipush (n := 61) (v := 61) (p' := 73) (by decide +kernel) rfl ?_
    refine ms_icmp_ne (off := 11) (t := 84) (p' := 76) (by decide +kernel) rfl (fun hc => ?_) (fun hc => ?_)
    · refine ms_iload_n (k := 1) (p' := 85) (by decide +kernel) rfl rfl ?_
      refine ms_bipush (n := 60) (v := 60) (p' := 87) (by decide +kernel) rfl ?_
      refine ms_icmp_ne (off := 37) (t := 124) (p' := 90) (by decide +kernel) rfl (fun hc => ?_) (fun hc => ?_)
      · refine ms_iload_n (k := 1) (p' := 125) (by decide +kernel) rfl rfl ?_
        refine ms_bipush (n := 62) (v := 62) (p' := 127) (by decide +kernel) rfl ?_
        refine ms_icmp_ne (off := 37) (t := 164) (p' := 130) (by decide +kernel) rfl (fun hc => ?_) (fun hc => ?_)
        · refine ms_aload_n (k := 0) (p' := 165) (by decide +kernel) rfl rfl ?_
          refine ms_bipush (n := 11) (v := 11) (p' := 167) (by decide +kernel) rfl ?_
          refine ms_puti (idx := 32) (ci := 4) (k := 5) (q := 319) (p' := 170) (by decide +kernel) rfl (k_3 hw) ?_
          rfl
        · refine ms_aload_n (k := 0) (p' := 131) (by decide +kernel) rfl rfl ?_
          refine ms_iload_n (k := 2) (p' := 132) (by decide +kernel) rfl rfl ?_
          refine ms_if_eq (off := 7) (t := 139) (p' := 135) (by decide +kernel) rfl (fun hc => ?_) (fun hc => ?_)
          · refine ms_iconst (n := 4) (v := 4) (p' := 140) (by decide +kernel) rfl ?_
            rfl
          · refine ms_iconst (n := 3) (v := 3) (p' := 136) (by decide +kernel) rfl ?_
            refine ms_goto (off := 4) (p' := 140) (by decide +kernel) ?_
            rfl
      · refine ms_aload_n (k := 0) (p' := 91) (by decide +kernel) rfl rfl ?_
        refine ms_iload_n (k := 2) (p' := 92) (by decide +kernel) rfl rfl ?_
        refine ms_if_eq (off := 7) (t := 99) (p' := 95) (by decide +kernel) rfl (fun hc => ?_) (fun hc => ?_)
        · refine ms_iconst (n := 0) (v := 0) (p' := 100) (by decide +kernel) rfl ?_
          rfl
        · refine ms_iconst (n := 1) (v := 1) (p' := 96) (by decide +kernel) rfl ?_
          refine ms_goto (off := 4) (p' := 100) (by decide +kernel) ?_
          rfl
    · refine ms_aload_n (k := 0) (p' := 77) (by decide +kernel) rfl rfl ?_
      refine ms_iconst (n := 2) (v := 2) (p' := 78) (by decide +kernel) rfl ?_
      refine ms_puti (idx := 38) (ci := 4) (k := 7) (q := 321) (p' := 81) (by decide +kernel) rfl (k_3 hw) ?_
      refine ms_goto (off := 89) (p' := 170) (by decide +kernel) ?_
      rfl
  · refine ms_aload_n (k := 0) (p' := 63) (by decide +kernel) rfl rfl ?_
    refine ms_iconst (n := 4) (v := 4) (p' := 64) (by decide +kernel) rfl ?_
    refine ms_puti (idx := 32) (ci := 4) (k := 5) (q := 319) (p' := 67) (by decide +kernel) rfl (k_3 hw) ?_
    refine ms_goto (off := 103) (p' := 170) (by decide +kernel) ?_
    rfl
theorem l_R_readSign_100 {sw : Bool} {w : mj_W} (hw : wk sw w) (f : mj_F) (x1 : Int) (x2 : Int) (xs1 : Int)  : mj_run yR_readSign w f 100 [.inr (.inl 3), .inl x1, .inl x2] [.inl xs1, .inr (.inl 3)] = if x2 = 0 then mj_run yR_readSign w (mj_u f 3 7 xs1) 117 [.inr (.inl 3), .inl x1, .inl x2] [.inl 0, .inl (mj_u f 3 7 xs1 3 4), .inr (.inl 3)] else mj_run yR_readSign w (mj_u f 3 7 xs1) 117 [.inr (.inl 3), .inl x1, .inl x2] [.inl 1, .inl (mj_u f 3 7 xs1 3 4), .inr (.inl 3)] := by
  refine ms_puti (idx := 38) (ci := 4) (k := 7) (q := 321) (p' := 103) (by decide +kernel) rfl (k_3 hw) ?_
  refine ms_aload_n (k := 0) (p' := 104) (by decide +kernel) rfl rfl ?_
  refine ms_dup_a (p' := 105) (by decide +kernel) rfl ?_
  refine ms_geti (idx := 29) (ci := 4) (k := 4) (q := 318) (p' := 108) (by decide +kernel) rfl (k_3 hw) ?_
  refine ms_iload_n (k := 2) (p' := 109) (by decide +kernel) rfl rfl ?_
  refine ms_if_eq (off := 7) (t := 116) (p' := 112) (by decide +kernel) rfl (fun hc => ?_) (fun hc => ?_)
  · refine ms_iconst (n := 0) (v := 0) (p' := 117) (by decide +kernel) rfl ?_
    rfl
  · refine ms_iconst (n := 1) (v := 1) (p' := 113) (by decide +kernel) rfl ?_
    refine ms_goto (off := 4) (p' := 117) (by decide +kernel) ?_
    rfl
theorem l_R_readSign_117 {sw : Bool} {w : mj_W} (hw : wk sw w) (f : mj_F) (x1 : Int) (x2 : Int) (xs1 : Int) (xs2 : Int)  : mj_run yR_readSign w f 117 [.inr (.inl 3), .inl x1, .inl x2] [.inl xs2, .inl xs1, .inr (.inl 3)] = mj_run yR_readSign w (mj_u f 3 4 (mj_w (xs1 + xs2))) 170 [.inr (.inl 3), .inl x1, .inl x2] [] := by
  refine ms_iadd (p' := 118) (by decide +kernel) rfl ?_
  refine ms_puti (idx := 29) (ci := 4) (k := 4) (q := 318) (p' := 121) (by decide +kernel) rfl (k_3 hw) ?_
  refine ms_goto (off := 49) (p' := 170) (by decide +kernel) ?_
  rfl
theorem l_R_readSign_140 {sw : Bool} {w : mj_W} (hw : wk sw w) (f : mj_F) (x1 : Int) (x2 : Int) (xs1 : Int)  : mj_run yR_readSign w f 140 [.inr (.inl 3), .inl x1, .inl x2] [.inl xs1, .inr (.inl 3)] = if x2 = 0 then mj_run yR_readSign w (mj_u f 3 7 xs1) 157 [.inr (.inl 3), .inl x1, .inl x2] [.inl 0, .inl (mj_u f 3 7 xs1 3 4), .inr (.inl 3)] else mj_run yR_readSign w (mj_u f 3 7 xs1) 157 [.inr (.inl 3), .inl x1, .inl x2] [.inl 1, .inl (mj_u f 3 7 xs1 3 4), .inr (.inl 3)] := by
  refine ms_puti (idx := 38) (ci := 4) (k := 7) (q := 321) (p' := 143) (by decide +kernel) rfl (k_3 hw) ?_
  refine ms_aload_n (k := 0) (p' := 144) (by decide +kernel) rfl rfl ?_
  refine ms_dup_a (p' := 145) (by decide +kernel) rfl ?_
  refine ms_geti (idx := 29) (ci := 4) (k := 4) (q := 318) (p' := 148) (by decide +kernel) rfl (k_3 hw) ?_
  refine ms_iload_n (k := 2) (p' := 149) (by decide +kernel) rfl rfl ?_
  refine ms_if_eq (off := 7) (t := 156) (p' := 152) (by decide +kernel) rfl (fun hc => ?_) (fun hc => ?_)
  · refine ms_iconst (n := 0) (v := 0) (p' := 157) (by decide +kernel) rfl ?_
    rfl
  · refine ms_iconst (n := 1) (v := 1) (p' := 153) (by decide +kernel) rfl ?_
    refine ms_goto (off := 4) (p' := 157) (by decide +kernel) ?_
    rfl
theorem l_R_readSign_157 {sw : Bool} {w : mj_W} (hw : wk sw w) (f : mj_F) (x1 : Int) (x2 : Int) (xs1 : Int) (xs2 : Int)  : mj_run yR_readSign w f 157 [.inr (.inl 3), .inl x1, .inl x2] [.inl xs2, .inl xs1, .inr (.inl 3)] = mj_run yR_readSign w (mj_u f 3 4 (mj_w (xs1 + xs2))) 170 [.inr (.inl 3), .inl x1, .inl x2] [] := by
  refine ms_iadd (p' := 158) (by decide +kernel) rfl ?_
  refine ms_puti (idx := 29) (ci := 4) (k := 4) (q := 318) (p' := 161) (by decide +kernel) rfl (k_3 hw) ?_
  refine ms_goto (off := 9) (p' := 170) (by decide +kernel) ?_
  rfl
theorem l_R_readSign_170 {sw : Bool} {w : mj_W} (hw : wk sw w) (f : mj_F) (x1 : Int) (x2 : Int)  : mj_run yR_readSign w f 170 [.inr (.inl 3), .inl x1, .inl x2] [] = some (w, f, none) := by
  exact ms_vret (by decide +kernel)
theorem c_R_advance {sw : Bool} {w : mj_W} (hw : wk sw w) (f : mj_F)   : mj_call yR_advance w f [.inr (.inl 3)] = if (f 3 3) ≤ (f 3 4) then mj_run yR_advance w f 52 [.inr (.inl 3)] [] else mj_gd (0 ≤ (f 3 4) ∧ (f 3 4) < ((900 : Nat) : Int)) (if (f 4 (f 3 4).toNat) = 10 then mj_run yR_advance w f 39 [.inr (.inl 3)] [] else mj_gd (0 ≤ (f 3 4) ∧ (f 3 4) < ((900 : Nat) : Int)) (if ¬ (f 4 (f 3 4).toNat) = 32 then mj_run yR_advance w f 52 [.inr (.inl 3)] [] else mj_run yR_advance w f 39 [.inr (.inl 3)] [])) := by
  show mj_run yR_advance w f 0 [.inr (.inl 3)] [] = _
  refine ms_aload_n (k := 0) (p' := 1) (by decide +kernel) rfl rfl ?_
  refine ms_geti (idx := 29) (ci := 4) (k := 4) (q := 318) (p' := 4) (by decide +kernel) rfl (k_3 hw) ?_
  refine ms_aload_n (k := 0) (p' := 5) (by decide +kernel) rfl rfl ?_
  refine ms_geti (idx := 26) (ci := 4) (k := 3) (q := 317) (p' := 8) (by decide +kernel) rfl (k_3 hw) ?_
  refine ms_icmp_ge (off := 44) (t := 52) (p' := 11) (by decide +kernel) rfl (fun hc => ?_) (fun hc => ?_)
  · rfl
  · refine ms_aload_n (k := 0) (p' := 12) (by decide +kernel) rfl rfl ?_
    refine ms_getr (idx := 9) (ci := 4) (k := 0) (q := 312) (p' := 15) (by decide +kernel) rfl (k_3 hw) (r_3_0 hw) (by decide) ?_
    refine ms_aload_n (k := 0) (p' := 16) (by decide +kernel) rfl rfl ?_
    refine ms_geti (idx := 29) (ci := 4) (k := 4) (q := 318) (p' := 19) (by decide +kernel) rfl (k_3 hw) ?_
    refine ms_bald (p' := 20) (by decide +kernel) rfl (k_4 hw) (fun hj1 => ?_)
    refine ms_bipush (n := 10) (v := 10) (p' := 22) (by decide +kernel) rfl ?_
    refine ms_icmp_eq (off := 17) (t := 39) (p' := 25) (by decide +kernel) rfl (fun hc => ?_) (fun hc => ?_)
    · rfl
    · refine ms_aload_n (k := 0) (p' := 26) (by decide +kernel) rfl rfl ?_
      refine ms_getr (idx := 9) (ci := 4) (k := 0) (q := 312) (p' := 29) (by decide +kernel) rfl (k_3 hw) (r_3_0 hw) (by decide) ?_
      refine ms_aload_n (k := 0) (p' := 30) (by decide +kernel) rfl rfl ?_
      refine ms_geti (idx := 29) (ci := 4) (k := 4) (q := 318) (p' := 33) (by decide +kernel) rfl (k_3 hw) ?_
      refine ms_bald (p' := 34) (by decide +kernel) rfl (k_4 hw) (fun hj2 => ?_)
      refine ms_bipush (n := 32) (v := 32) (p' := 36) (by decide +kernel) rfl ?_
      refine ms_icmp_ne (off := 16) (t := 52) (p' := 39) (by decide +kernel) rfl (fun hc => ?_) (fun hc => ?_)
      · rfl
      · rfl
theorem l_R_advance_0 {sw : Bool} {w : mj_W} (hw : wk sw w) (f : mj_F)   : mj_run yR_advance w f 0 [.inr (.inl 3)] [] = if (f 3 3) ≤ (f 3 4) then mj_run yR_advance w f 52 [.inr (.inl 3)] [] else mj_gd (0 ≤ (f 3 4) ∧ (f 3 4) < ((900 : Nat) : Int)) (if (f 4 (f 3 4).toNat) = 10 then mj_run yR_advance w f 39 [.inr (.inl 3)] [] else mj_gd (0 ≤ (f 3 4) ∧ (f 3 4) < ((900 : Nat) : Int)) (if ¬ (f 4 (f 3 4).toNat) = 32 then mj_run yR_advance w f 52 [.inr (.inl 3)] [] else mj_run yR_advance w f 39 [.inr (.inl 3)] [])) := by
  refine ms_aload_n (k := 0) (p' := 1) (by decide +kernel) rfl rfl ?_
  refine ms_geti (idx := 29) (ci := 4) (k := 4) (q := 318) (p' := 4) (by decide +kernel) rfl (k_3 hw) ?_
  refine ms_aload_n (k := 0) (p' := 5) (by decide +kernel) rfl rfl ?_
  refine ms_geti (idx := 26) (ci := 4) (k := 3) (q := 317) (p' := 8) (by decide +kernel) rfl (k_3 hw) ?_
  refine ms_icmp_ge (off := 44) (t := 52) (p' := 11) (by decide +kernel) rfl (fun hc => ?_) (fun hc => ?_)
  · rfl
  · refine ms_aload_n (k := 0) (p' := 12) (by decide +kernel) rfl rfl ?_
    refine ms_getr (idx := 9) (ci := 4) (k := 0) (q := 312) (p' := 15) (by decide +kernel) rfl (k_3 hw) (r_3_0 hw) (by decide) ?_
    refine ms_aload_n (k := 0) (p' := 16) (by decide +kernel) rfl rfl ?_
    refine ms_geti (idx := 29) (ci := 4) (k := 4) (q := 318) (p' := 19) (by decide +kernel) rfl (k_3 hw) ?_
    refine ms_bald (p' := 20) (by decide +kernel) rfl (k_4 hw) (fun hj3 => ?_)
    refine ms_bipush (n := 10) (v := 10) (p' := 22) (by decide +kernel) rfl ?_
    refine ms_icmp_eq (off := 17) (t := 39) (p' := 25) (by decide +kernel) rfl (fun hc => ?_) (fun hc => ?_)
    · rfl
    · refine ms_aload_n (k := 0) (p' := 26) (by decide +kernel) rfl rfl ?_
      refine ms_getr (idx := 9) (ci := 4) (k := 0) (q := 312) (p' := 29) (by decide +kernel) rfl (k_3 hw) (r_3_0 hw) (by decide) ?_
      refine ms_aload_n (k := 0) (p' := 30) (by decide +kernel) rfl rfl ?_
      refine ms_geti (idx := 29) (ci := 4) (k := 4) (q := 318) (p' := 33) (by decide +kernel) rfl (k_3 hw) ?_
      refine ms_bald (p' := 34) (by decide +kernel) rfl (k_4 hw) (fun hj4 => ?_)
      refine ms_bipush (n := 32) (v := 32) (p' := 36) (by decide +kernel) rfl ?_
      refine ms_icmp_ne (off := 16) (t := 52) (p' := 39) (by decide +kernel) rfl (fun hc => ?_) (fun hc => ?_)
      · rfl
      · rfl
theorem l_R_advance_39 {sw : Bool} {w : mj_W} (hw : wk sw w) (f : mj_F)   : mj_run yR_advance w f 39 [.inr (.inl 3)] [] = mj_run yR_advance w (mj_u f 3 4 (mj_w ((f 3 4) + 1))) 0 [.inr (.inl 3)] [] := by
  refine ms_aload_n (k := 0) (p' := 40) (by decide +kernel) rfl rfl ?_
  refine ms_dup_a (p' := 41) (by decide +kernel) rfl ?_
  refine ms_geti (idx := 29) (ci := 4) (k := 4) (q := 318) (p' := 44) (by decide +kernel) rfl (k_3 hw) ?_
  refine ms_iconst (n := 1) (v := 1) (p' := 45) (by decide +kernel) rfl ?_
  refine ms_iadd (p' := 46) (by decide +kernel) rfl ?_
  refine ms_puti (idx := 29) (ci := 4) (k := 4) (q := 318) (p' := 49) (by decide +kernel) rfl (k_3 hw) ?_
  refine ms_goto (off := (-49)) (p' := 0) (by decide +kernel) ?_
  rfl
theorem l_R_advance_52 {sw : Bool} {w : mj_W} (hw : wk sw w) (f : mj_F)   : mj_run yR_advance w f 52 [.inr (.inl 3)] [] = if (mj_u f 3 6 (f 3 4) 3 4) < (mj_u f 3 6 (f 3 4) 3 3) then mj_gd (0 ≤ (mj_u f 3 6 (f 3 4) 3 4) ∧ (mj_u f 3 6 (f 3 4) 3 4) < ((900 : Nat) : Int)) (if ((mj_u f 3 6 (f 3 4)) 4 (mj_u f 3 6 (f 3 4) 3 4).toNat) < 97 then mj_run yR_advance w (mj_u f 3 6 (f 3 4)) 114 [.inr (.inl 3)] [] else mj_gd (0 ≤ (mj_u f 3 6 (f 3 4) 3 4) ∧ (mj_u f 3 6 (f 3 4) 3 4) < ((900 : Nat) : Int)) (if 122 < ((mj_u f 3 6 (f 3 4)) 4 (mj_u f 3 6 (f 3 4) 3 4).toNat) then mj_run yR_advance w (mj_u f 3 6 (f 3 4)) 114 [.inr (.inl 3)] [] else mj_bu (mj_call yR_readWord w (mj_u f 3 6 (f 3 4)) [.inr (.inl 3)]) (fun f7 => mj_run yR_advance w f7 153 [.inr (.inl 3)] []))) else mj_run yR_advance w (mj_u (mj_u f 3 6 (f 3 4)) 3 5 0) 153 [.inr (.inl 3)] [] := by
  refine ms_aload_n (k := 0) (p' := 53) (by decide +kernel) rfl rfl ?_
  refine ms_aload_n (k := 0) (p' := 54) (by decide +kernel) rfl rfl ?_
  refine ms_geti (idx := 29) (ci := 4) (k := 4) (q := 318) (p' := 57) (by decide +kernel) rfl (k_3 hw) ?_
  refine ms_puti (idx := 35) (ci := 4) (k := 6) (q := 320) (p' := 60) (by decide +kernel) rfl (k_3 hw) ?_
  refine ms_aload_n (k := 0) (p' := 61) (by decide +kernel) rfl rfl ?_
  refine ms_geti (idx := 29) (ci := 4) (k := 4) (q := 318) (p' := 64) (by decide +kernel) rfl (k_3 hw) ?_
  refine ms_aload_n (k := 0) (p' := 65) (by decide +kernel) rfl rfl ?_
  refine ms_geti (idx := 26) (ci := 4) (k := 3) (q := 317) (p' := 68) (by decide +kernel) rfl (k_3 hw) ?_
  refine ms_icmp_lt (off := 11) (t := 79) (p' := 71) (by decide +kernel) rfl (fun hc => ?_) (fun hc => ?_)
  · refine ms_aload_n (k := 0) (p' := 80) (by decide +kernel) rfl rfl ?_
    refine ms_getr (idx := 9) (ci := 4) (k := 0) (q := 312) (p' := 83) (by decide +kernel) rfl (k_3 hw) (r_3_0 hw) (by decide) ?_
    refine ms_aload_n (k := 0) (p' := 84) (by decide +kernel) rfl rfl ?_
    refine ms_geti (idx := 29) (ci := 4) (k := 4) (q := 318) (p' := 87) (by decide +kernel) rfl (k_3 hw) ?_
    refine ms_bald (p' := 88) (by decide +kernel) rfl (k_4 hw) (fun hj5 => ?_)
    refine ms_bipush (n := 97) (v := 97) (p' := 90) (by decide +kernel) rfl ?_
    refine ms_icmp_lt (off := 24) (t := 114) (p' := 93) (by decide +kernel) rfl (fun hc => ?_) (fun hc => ?_)
    · rfl
    · refine ms_aload_n (k := 0) (p' := 94) (by decide +kernel) rfl rfl ?_
      refine ms_getr (idx := 9) (ci := 4) (k := 0) (q := 312) (p' := 97) (by decide +kernel) rfl (k_3 hw) (r_3_0 hw) (by decide) ?_
      refine ms_aload_n (k := 0) (p' := 98) (by decide +kernel) rfl rfl ?_
      refine ms_geti (idx := 29) (ci := 4) (k := 4) (q := 318) (p' := 101) (by decide +kernel) rfl (k_3 hw) ?_
      refine ms_bald (p' := 102) (by decide +kernel) rfl (k_4 hw) (fun hj6 => ?_)
      refine ms_bipush (n := 122) (v := 122) (p' := 104) (by decide +kernel) rfl ?_
      refine ms_icmp_gt (off := 10) (t := 114) (p' := 107) (by decide +kernel) rfl (fun hc => ?_) (fun hc => ?_)
      · rfl
      · refine ms_aload_n (k := 0) (p' := 108) (by decide +kernel) rfl rfl ?_
        refine ms_virt_u (idx := 154) (cy := yR_readWord) (n := 0) (a := 3) (as := []) (rest := []) (p' := 111) (by decide +kernel) rfl rfl rfl rfl (k_3 hw) rfl (fun f7 => ?_)
        refine ms_goto (off := 42) (p' := 153) (by decide +kernel) ?_
        rfl
  · refine ms_aload_n (k := 0) (p' := 72) (by decide +kernel) rfl rfl ?_
    refine ms_iconst (n := 0) (v := 0) (p' := 73) (by decide +kernel) rfl ?_
    refine ms_puti (idx := 32) (ci := 4) (k := 5) (q := 319) (p' := 76) (by decide +kernel) rfl (k_3 hw) ?_
    refine ms_goto (off := 77) (p' := 153) (by decide +kernel) ?_
    rfl
theorem l_R_advance_114 {sw : Bool} {w : mj_W} (hw : wk sw w) (f : mj_F)   : mj_run yR_advance w f 114 [.inr (.inl 3)] [] = mj_gd (0 ≤ (f 3 4) ∧ (f 3 4) < ((900 : Nat) : Int)) (if (f 4 (f 3 4).toNat) < 48 then mj_run yR_advance w f 149 [.inr (.inl 3)] [] else mj_gd (0 ≤ (f 3 4) ∧ (f 3 4) < ((900 : Nat) : Int)) (if 57 < (f 4 (f 3 4).toNat) then mj_run yR_advance w f 149 [.inr (.inl 3)] [] else mj_bu (mj_call yR_readDigits w f [.inr (.inl 3)]) (fun f10 => mj_run yR_advance w f10 153 [.inr (.inl 3)] []))) := by
  refine ms_aload_n (k := 0) (p' := 115) (by decide +kernel) rfl rfl ?_
  refine ms_getr (idx := 9) (ci := 4) (k := 0) (q := 312) (p' := 118) (by decide +kernel) rfl (k_3 hw) (r_3_0 hw) (by decide) ?_
  refine ms_aload_n (k := 0) (p' := 119) (by decide +kernel) rfl rfl ?_
  refine ms_geti (idx := 29) (ci := 4) (k := 4) (q := 318) (p' := 122) (by decide +kernel) rfl (k_3 hw) ?_
  refine ms_bald (p' := 123) (by decide +kernel) rfl (k_4 hw) (fun hj8 => ?_)
  refine ms_bipush (n := 48) (v := 48) (p' := 125) (by decide +kernel) rfl ?_
  refine ms_icmp_lt (off := 24) (t := 149) (p' := 128) (by decide +kernel) rfl (fun hc => ?_) (fun hc => ?_)
  · rfl
  · refine ms_aload_n (k := 0) (p' := 129) (by decide +kernel) rfl rfl ?_
    refine ms_getr (idx := 9) (ci := 4) (k := 0) (q := 312) (p' := 132) (by decide +kernel) rfl (k_3 hw) (r_3_0 hw) (by decide) ?_
    refine ms_aload_n (k := 0) (p' := 133) (by decide +kernel) rfl rfl ?_
    refine ms_geti (idx := 29) (ci := 4) (k := 4) (q := 318) (p' := 136) (by decide +kernel) rfl (k_3 hw) ?_
    refine ms_bald (p' := 137) (by decide +kernel) rfl (k_4 hw) (fun hj9 => ?_)
    refine ms_bipush (n := 57) (v := 57) (p' := 139) (by decide +kernel) rfl ?_
    refine ms_icmp_gt (off := 10) (t := 149) (p' := 142) (by decide +kernel) rfl (fun hc => ?_) (fun hc => ?_)
    · rfl
    · refine ms_aload_n (k := 0) (p' := 143) (by decide +kernel) rfl rfl ?_
      refine ms_virt_u (idx := 157) (cy := yR_readDigits) (n := 0) (a := 3) (as := []) (rest := []) (p' := 146) (by decide +kernel) rfl rfl rfl rfl (k_3 hw) rfl (fun f10 => ?_)
      refine ms_goto (off := 7) (p' := 153) (by decide +kernel) ?_
      rfl
theorem l_R_advance_149 {sw : Bool} {w : mj_W} (hw : wk sw w) (f : mj_F)   : mj_run yR_advance w f 149 [.inr (.inl 3)] [] = mj_bu (mj_call yR_readSign w f [.inr (.inl 3)]) (fun f11 => mj_run yR_advance w f11 153 [.inr (.inl 3)] []) := by
  refine ms_aload_n (k := 0) (p' := 150) (by decide +kernel) rfl rfl ?_
  refine ms_virt_u (idx := 160) (cy := yR_readSign) (n := 0) (a := 3) (as := []) (rest := []) (p' := 153) (by decide +kernel) rfl rfl rfl rfl (k_3 hw) rfl (fun f11 => ?_)
  rfl
theorem l_R_advance_153 {sw : Bool} {w : mj_W} (hw : wk sw w) (f : mj_F)   : mj_run yR_advance w f 153 [.inr (.inl 3)] [] = some (w, f, none) := by
  exact ms_vret (by decide +kernel)
theorem c_R_fail {sw : Bool} {w : mj_W} (hw : wk sw w) (f : mj_F) (x1 : Int)  : mj_call yR_fail w f [.inr (.inl 3), .inl x1] = some (w, (mj_u (mj_u f 3 8 x1) 3 9 (mj_u f 3 8 x1 3 6)), some (.inl 0)) := by
  show mj_run yR_fail w f 0 [.inr (.inl 3), .inl x1] [] = _
  refine ms_aload_n (k := 0) (p' := 1) (by decide +kernel) rfl rfl ?_
  refine ms_iload_n (k := 1) (p' := 2) (by decide +kernel) rfl rfl ?_
  refine ms_puti (idx := 41) (ci := 4) (k := 8) (q := 322) (p' := 5) (by decide +kernel) rfl (k_3 hw) ?_
  refine ms_aload_n (k := 0) (p' := 6) (by decide +kernel) rfl rfl ?_
  refine ms_aload_n (k := 0) (p' := 7) (by decide +kernel) rfl rfl ?_
  refine ms_geti (idx := 35) (ci := 4) (k := 6) (q := 320) (p' := 10) (by decide +kernel) rfl (k_3 hw) ?_
  refine ms_puti (idx := 44) (ci := 4) (k := 9) (q := 324) (p' := 13) (by decide +kernel) rfl (k_3 hw) ?_
  refine ms_iconst (n := 0) (v := 0) (p' := 14) (by decide +kernel) rfl ?_
  exact (ms_zret (by decide +kernel)).trans (mj_gd_pos (by decide) _)
theorem c_R_readClock {sw : Bool} {w : mj_W} (hw : wk sw w) (f : mj_F)   : mj_call yR_readClock w f [.inr (.inl 3)] = if (f (fr sw) 1) < 4 then mj_bu (mj_call yR_advance w f [.inr (.inl 3)]) (fun f1 => if (f1 3 5) = 1 then mj_bi (mj_call yL_clockNamed w f1 [.inr (.inl (fr sw)), .inl (f1 3 7)]) (fun f2 v3 => if v3 = (-1) then mj_gd (0 ≤ (f2 (fr sw) 1) ∧ (f2 (fr sw) 1) < ((4 : Nat) : Int)) (mj_bu (mj_call yR_advance w (mj_u (mj_u f2 (fr sw + 1) (f2 (fr sw) 1).toNat (f2 3 7)) (fr sw) 1 (mj_w ((mj_u f2 (fr sw + 1) (f2 (fr sw) 1).toNat (f2 3 7) (fr sw) 1) + 1))) [.inr (.inl 3)]) (fun f5 => some (w, f5, some (.inl 1)))) else mj_bi (mj_call yR_fail w f2 [.inr (.inl 3), .inl 3]) (fun f6 v7 => mj_gd (v7 = 0 ∨ v7 = 1) (some (w, f6, some (.inl v7))))) else mj_bi (mj_call yR_fail w f1 [.inr (.inl 3), .inl 1]) (fun f8 v9 => mj_gd (v9 = 0 ∨ v9 = 1) (some (w, f8, some (.inl v9))))) else mj_bi (mj_call yR_fail w f [.inr (.inl 3), .inl 2]) (fun f10 v11 => mj_gd (v11 = 0 ∨ v11 = 1) (some (w, f10, some (.inl v11)))) := by
  show mj_run yR_readClock w f 0 [.inr (.inl 3)] [] = _
  refine ms_aload_n (k := 0) (p' := 1) (by decide +kernel) rfl rfl ?_
  refine ms_getr (idx := 22) (ci := 4) (k := 2) (q := 315) (p' := 4) (by decide +kernel) rfl (k_3 hw) (r_3_2 hw) (pn_0 (fr_pn sw)) ?_
  refine ms_geti (idx := 88) (ci := 3) (k := 1) (q := 206) (p' := 7) (by decide +kernel) rfl (pn_k (fr_pn sw) hw) ?_
  refine ms_iconst (n := 4) (v := 4) (p' := 8) (by decide +kernel) rfl ?_
  refine ms_icmp_lt (off := 9) (t := 17) (p' := 11) (by decide +kernel) rfl (fun hc => ?_) (fun hc => ?_)
  · refine ms_aload_n (k := 0) (p' := 18) (by decide +kernel) rfl rfl ?_
    refine ms_virt_u (idx := 56) (cy := yR_advance) (n := 0) (a := 3) (as := []) (rest := []) (p' := 21) (by decide +kernel) rfl rfl rfl rfl (k_3 hw) rfl (fun f1 => ?_)
    refine ms_aload_n (k := 0) (p' := 22) (by decide +kernel) rfl rfl ?_
    refine ms_geti (idx := 32) (ci := 4) (k := 5) (q := 319) (p' := 25) (by decide +kernel) rfl (k_3 hw) ?_
    refine ms_iconst (n := 1) (v := 1) (p' := 26) (by decide +kernel) rfl ?_
    refine ms_icmp_eq (off := 9) (t := 35) (p' := 29) (by decide +kernel) rfl (fun hc => ?_) (fun hc => ?_)
    · refine ms_aload_n (k := 0) (p' := 36) (by decide +kernel) rfl rfl ?_
      refine ms_getr (idx := 22) (ci := 4) (k := 2) (q := 315) (p' := 39) (by decide +kernel) rfl (k_3 hw) (r_3_2 hw) (pn_0 (fr_pn sw)) ?_
      refine ms_aload_n (k := 0) (p' := 40) (by decide +kernel) rfl rfl ?_
      refine ms_geti (idx := 38) (ci := 4) (k := 7) (q := 321) (p' := 43) (by decide +kernel) rfl (k_3 hw) ?_
      refine ms_virt_i (idx := 91) (cy := yL_clockNamed) (n := 1) (a := (fr sw)) (as := [.inl (f1 3 7)]) (rest := []) (p' := 46) (by decide +kernel) rfl rfl rfl rfl (pn_k (fr_pn sw) hw) rfl (fun f2 v3 => ?_)
      refine ms_iconst (n := (-1)) (v := (-1)) (p' := 47) (by decide +kernel) rfl ?_
      refine ms_icmp_eq (off := 9) (t := 56) (p' := 50) (by decide +kernel) rfl (fun hc => ?_) (fun hc => ?_)
      · refine ms_aload_n (k := 0) (p' := 57) (by decide +kernel) rfl rfl ?_
        refine ms_getr (idx := 22) (ci := 4) (k := 2) (q := 315) (p' := 60) (by decide +kernel) rfl (k_3 hw) (r_3_2 hw) (pn_0 (fr_pn sw)) ?_
        refine ms_getr (idx := 95) (ci := 3) (k := 6) (q := 225) (p' := 63) (by decide +kernel) rfl (pn_k (fr_pn sw) hw) (pn_r6 (fr_pn sw) hw) (by omega) ?_
        refine ms_aload_n (k := 0) (p' := 64) (by decide +kernel) rfl rfl ?_
        refine ms_getr (idx := 22) (ci := 4) (k := 2) (q := 315) (p' := 67) (by decide +kernel) rfl (k_3 hw) (r_3_2 hw) (pn_0 (fr_pn sw)) ?_
        refine ms_geti (idx := 88) (ci := 3) (k := 1) (q := 206) (p' := 70) (by decide +kernel) rfl (pn_k (fr_pn sw) hw) ?_
        refine ms_aload_n (k := 0) (p' := 71) (by decide +kernel) rfl rfl ?_
        refine ms_geti (idx := 38) (ci := 4) (k := 7) (q := 321) (p' := 74) (by decide +kernel) rfl (k_3 hw) ?_
        refine ms_iast (p' := 75) (by decide +kernel) rfl (pn_k6 (fr_pn sw) hw) (fun hj4 => ?_)
        refine ms_aload_n (k := 0) (p' := 76) (by decide +kernel) rfl rfl ?_
        refine ms_getr (idx := 22) (ci := 4) (k := 2) (q := 315) (p' := 79) (by decide +kernel) rfl (k_3 hw) (r_3_2 hw) (pn_0 (fr_pn sw)) ?_
        refine ms_dup_a (p' := 80) (by decide +kernel) rfl ?_
        refine ms_geti (idx := 88) (ci := 3) (k := 1) (q := 206) (p' := 83) (by decide +kernel) rfl (pn_k (fr_pn sw) hw) ?_
        refine ms_iconst (n := 1) (v := 1) (p' := 84) (by decide +kernel) rfl ?_
        refine ms_iadd (p' := 85) (by decide +kernel) rfl ?_
        refine ms_puti (idx := 88) (ci := 3) (k := 1) (q := 206) (p' := 88) (by decide +kernel) rfl (pn_k (fr_pn sw) hw) ?_
        refine ms_aload_n (k := 0) (p' := 89) (by decide +kernel) rfl rfl ?_
        refine ms_virt_u (idx := 56) (cy := yR_advance) (n := 0) (a := 3) (as := []) (rest := []) (p' := 92) (by decide +kernel) rfl rfl rfl rfl (k_3 hw) rfl (fun f5 => ?_)
        refine ms_iconst (n := 1) (v := 1) (p' := 93) (by decide +kernel) rfl ?_
        exact (ms_zret (by decide +kernel)).trans (mj_gd_pos (by decide) _)
      · refine ms_aload_n (k := 0) (p' := 51) (by decide +kernel) rfl rfl ?_
        refine ms_iconst (n := 3) (v := 3) (p' := 52) (by decide +kernel) rfl ?_
        refine ms_virt_i (idx := 69) (cy := yR_fail) (n := 1) (a := 3) (as := [.inl 3]) (rest := []) (p' := 55) (by decide +kernel) rfl rfl rfl rfl (k_3 hw) rfl (fun f6 v7 => ?_)
        exact ms_zret (by decide +kernel)
    · refine ms_aload_n (k := 0) (p' := 30) (by decide +kernel) rfl rfl ?_
      refine ms_iconst (n := 1) (v := 1) (p' := 31) (by decide +kernel) rfl ?_
      refine ms_virt_i (idx := 69) (cy := yR_fail) (n := 1) (a := 3) (as := [.inl 1]) (rest := []) (p' := 34) (by decide +kernel) rfl rfl rfl rfl (k_3 hw) rfl (fun f8 v9 => ?_)
      exact ms_zret (by decide +kernel)
  · refine ms_aload_n (k := 0) (p' := 12) (by decide +kernel) rfl rfl ?_
    refine ms_iconst (n := 2) (v := 2) (p' := 13) (by decide +kernel) rfl ?_
    refine ms_virt_i (idx := 69) (cy := yR_fail) (n := 1) (a := 3) (as := [.inl 2]) (rest := []) (p' := 16) (by decide +kernel) rfl rfl rfl rfl (k_3 hw) rfl (fun f10 v11 => ?_)
    exact ms_zret (by decide +kernel)
theorem c_R_endLine {sw : Bool} {w : mj_W} (hw : wk sw w) (f : mj_F)   : mj_call yR_endLine w f [.inr (.inl 3)] = if (f 3 5) = 4 then mj_bu (mj_call yR_advance w f [.inr (.inl 3)]) (fun f1 => some (w, f1, some (.inl 1))) else mj_bi (mj_call yR_fail w f [.inr (.inl 3), .inl 1]) (fun f2 v3 => mj_gd (v3 = 0 ∨ v3 = 1) (some (w, f2, some (.inl v3)))) := by
  show mj_run yR_endLine w f 0 [.inr (.inl 3)] [] = _
  refine ms_aload_n (k := 0) (p' := 1) (by decide +kernel) rfl rfl ?_
  refine ms_geti (idx := 32) (ci := 4) (k := 5) (q := 319) (p' := 4) (by decide +kernel) rfl (k_3 hw) ?_
  refine ms_iconst (n := 4) (v := 4) (p' := 5) (by decide +kernel) rfl ?_
  refine ms_icmp_eq (off := 9) (t := 14) (p' := 8) (by decide +kernel) rfl (fun hc => ?_) (fun hc => ?_)
  · refine ms_aload_n (k := 0) (p' := 15) (by decide +kernel) rfl rfl ?_
    refine ms_virt_u (idx := 56) (cy := yR_advance) (n := 0) (a := 3) (as := []) (rest := []) (p' := 18) (by decide +kernel) rfl rfl rfl rfl (k_3 hw) rfl (fun f1 => ?_)
    refine ms_iconst (n := 1) (v := 1) (p' := 19) (by decide +kernel) rfl ?_
    exact (ms_zret (by decide +kernel)).trans (mj_gd_pos (by decide) _)
  · refine ms_aload_n (k := 0) (p' := 9) (by decide +kernel) rfl rfl ?_
    refine ms_iconst (n := 1) (v := 1) (p' := 10) (by decide +kernel) rfl ?_
    refine ms_virt_i (idx := 69) (cy := yR_fail) (n := 1) (a := 3) (as := [.inl 1]) (rest := []) (p' := 13) (by decide +kernel) rfl rfl rfl rfl (k_3 hw) rfl (fun f2 v3 => ?_)
    exact ms_zret (by decide +kernel)
theorem c_R_clockHere {sw : Bool} {w : mj_W} (hw : wk sw w) (f : mj_F)   : mj_call yR_clockHere w f [.inr (.inl 3)] = if ¬ (f 3 5) = 1 then some (w, f, some (.inl (-1))) else mj_bi (mj_call yL_clockNamed w f [.inr (.inl (fr sw)), .inl (f 3 7)]) (fun f1 v2 => some (w, f1, some (.inl v2))) := by
  show mj_run yR_clockHere w f 0 [.inr (.inl 3)] [] = _
  refine ms_aload_n (k := 0) (p' := 1) (by decide +kernel) rfl rfl ?_
  refine ms_geti (idx := 32) (ci := 4) (k := 5) (q := 319) (p' := 4) (by decide +kernel) rfl (k_3 hw) ?_
  refine ms_iconst (n := 1) (v := 1) (p' := 5) (by decide +kernel) rfl ?_
  refine ms_icmp_ne (off := 17) (t := 22) (p' := 8) (by decide +kernel) rfl (fun hc => ?_) (fun hc => ?_)
  · refine ms_iconst (n := (-1)) (v := (-1)) (p' := 23) (by decide +kernel) rfl ?_
    exact ms_iret (by decide +kernel)
  · refine ms_aload_n (k := 0) (p' := 9) (by decide +kernel) rfl rfl ?_
    refine ms_getr (idx := 22) (ci := 4) (k := 2) (q := 315) (p' := 12) (by decide +kernel) rfl (k_3 hw) (r_3_2 hw) (pn_0 (fr_pn sw)) ?_
    refine ms_aload_n (k := 0) (p' := 13) (by decide +kernel) rfl rfl ?_
    refine ms_geti (idx := 38) (ci := 4) (k := 7) (q := 321) (p' := 16) (by decide +kernel) rfl (k_3 hw) ?_
    refine ms_virt_i (idx := 91) (cy := yL_clockNamed) (n := 1) (a := (fr sw)) (as := [.inl (f 3 7)]) (rest := []) (p' := 19) (by decide +kernel) rfl rfl rfl rfl (pn_k (fr_pn sw) hw) rfl (fun f1 v2 => ?_)
    refine ms_goto (off := 4) (p' := 23) (by decide +kernel) ?_
    exact ms_iret (by decide +kernel)
theorem c_R_numberHere {sw : Bool} {w : mj_W} (hw : wk sw w) (f : mj_F)   : mj_call yR_numberHere w f [.inr (.inl 3)] = if (f 3 5) = 2 then if (f 3 7) ≤ 50 then some (w, f, some (.inl 1)) else mj_bi (mj_call yR_fail w f [.inr (.inl 3), .inl 2]) (fun f1 v2 => if v2 = 0 then some (w, f1, some (.inl 0)) else some (w, f1, some (.inl 1))) else mj_bi (mj_call yR_fail w f [.inr (.inl 3), .inl 1]) (fun f3 v4 => mj_gd (v4 = 0 ∨ v4 = 1) (some (w, f3, some (.inl v4)))) := by
  show mj_run yR_numberHere w f 0 [.inr (.inl 3)] [] = _
  refine ms_aload_n (k := 0) (p' := 1) (by decide +kernel) rfl rfl ?_
  refine ms_geti (idx := 32) (ci := 4) (k := 5) (q := 319) (p' := 4) (by decide +kernel) rfl (k_3 hw) ?_
  refine ms_iconst (n := 2) (v := 2) (p' := 5) (by decide +kernel) rfl ?_
  refine ms_icmp_eq (off := 9) (t := 14) (p' := 8) (by decide +kernel) rfl (fun hc => ?_) (fun hc => ?_)
  · refine ms_aload_n (k := 0) (p' := 15) (by decide +kernel) rfl rfl ?_
    refine ms_geti (idx := 38) (ci := 4) (k := 7) (q := 321) (p' := 18) (by decide +kernel) rfl (k_3 hw) ?_
    refine ms_bipush (n := 50) (v := 50) (p' := 20) (by decide +kernel) rfl ?_
    refine ms_icmp_le (off := 11) (t := 31) (p' := 23) (by decide +kernel) rfl (fun hc => ?_) (fun hc => ?_)
    · refine ms_iconst (n := 1) (v := 1) (p' := 32) (by decide +kernel) rfl ?_
      refine ms_goto (off := 4) (p' := 36) (by decide +kernel) ?_
      exact (ms_zret (by decide +kernel)).trans (mj_gd_pos (by decide) _)
    · refine ms_aload_n (k := 0) (p' := 24) (by decide +kernel) rfl rfl ?_
      refine ms_iconst (n := 2) (v := 2) (p' := 25) (by decide +kernel) rfl ?_
      refine ms_virt_i (idx := 69) (cy := yR_fail) (n := 1) (a := 3) (as := [.inl 2]) (rest := []) (p' := 28) (by decide +kernel) rfl rfl rfl rfl (k_3 hw) rfl (fun f1 v2 => ?_)
      refine ms_if_eq (off := 7) (t := 35) (p' := 31) (by decide +kernel) rfl (fun hc => ?_) (fun hc => ?_)
      · refine ms_iconst (n := 0) (v := 0) (p' := 36) (by decide +kernel) rfl ?_
        exact (ms_zret (by decide +kernel)).trans (mj_gd_pos (by decide) _)
      · refine ms_iconst (n := 1) (v := 1) (p' := 32) (by decide +kernel) rfl ?_
        refine ms_goto (off := 4) (p' := 36) (by decide +kernel) ?_
        exact (ms_zret (by decide +kernel)).trans (mj_gd_pos (by decide) _)
  · refine ms_aload_n (k := 0) (p' := 9) (by decide +kernel) rfl rfl ?_
    refine ms_iconst (n := 1) (v := 1) (p' := 10) (by decide +kernel) rfl ?_
    refine ms_virt_i (idx := 69) (cy := yR_fail) (n := 1) (a := 3) (as := [.inl 1]) (rest := []) (p' := 13) (by decide +kernel) rfl rfl rfl rfl (k_3 hw) rfl (fun f3 v4 => ?_)
    exact ms_zret (by decide +kernel)
theorem c_R_readWhens {sw : Bool} {w : mj_W} (hw : wk sw w) (f : mj_F) (x1 : Int)  : mj_call yR_readWhens w f [.inr (.inl 3), .inl x1] = mj_run yR_readWhens w f 2 [.inr (.inl 3), .inl x1, .inl 0, .inr (.inr (.inr 0)), .inr (.inr (.inr 0))] [] := by
  show mj_run yR_readWhens w f 0 [.inr (.inl 3), .inl x1, .inr (.inr (.inr 0)), .inr (.inr (.inr 0)), .inr (.inr (.inr 0))] [] = _
  refine ms_iconst (n := 0) (v := 0) (p' := 1) (by decide +kernel) rfl ?_
  refine ms_istore_n (k := 2) (ls' := [.inr (.inl 3), .inl x1, .inl 0, .inr (.inr (.inr 0)), .inr (.inr (.inr 0))]) (p' := 2) (by decide +kernel) rfl (Nat.le_of_ble_eq_true rfl) rfl ?_
  rfl
theorem l_R_readWhens_2 {sw : Bool} {w : mj_W} (hw : wk sw w) (f : mj_F) (x1 : Int) (x2 : Int) (u3 : mj_V) (u4 : mj_V)  : mj_run yR_readWhens w f 2 [.inr (.inl 3), .inl x1, .inl x2, u3, u4] [] = if 6 < x2 then some (w, f, some (.inl 1)) else if ¬ (f 3 5) = 9 then some (w, f, some (.inl 1)) else if ¬ x2 = 6 then mj_bu (mj_call yR_advance w f [.inr (.inl 3)]) (fun f1 => mj_bi (mj_call yR_clockHere w f1 [.inr (.inl 3)]) (fun f2 v3 => if ¬ v3 = (-1) then mj_bu (mj_call yR_advance w f2 [.inr (.inl 3)]) (fun f4 => if (f4 3 5) = 3 then mj_bu (mj_call yR_advance w f4 [.inr (.inl 3)]) (fun f5 => mj_bi (mj_call yR_numberHere w f5 [.inr (.inl 3)]) (fun f6 v7 => if ¬ v7 = 0 then mj_bu (mj_call yL_addRule w f6 [.inr (.inl (fr sw)), .inl x1, .inl v3, .inl (f4 3 7), .inl (f6 3 7)]) (fun f8 => mj_bu (mj_call yR_advance w f8 [.inr (.inl 3)]) (fun f9 => mj_run yR_readWhens w f9 2 [.inr (.inl 3), .inl x1, .inl (mj_w (x2 + 1)), .inl v3, .inl (f4 3 7)] [])) else some (w, f6, some (.inl 0)))) else mj_bi (mj_call yR_fail w f4 [.inr (.inl 3), .inl 1]) (fun f10 v11 => mj_gd (v11 = 0 ∨ v11 = 1) (some (w, f10, some (.inl v11))))) else mj_bi (mj_call yR_fail w f2 [.inr (.inl 3), .inl 1]) (fun f12 v13 => mj_gd (v13 = 0 ∨ v13 = 1) (some (w, f12, some (.inl v13)))))) else mj_bi (mj_call yR_fail w f [.inr (.inl 3), .inl 2]) (fun f14 v15 => mj_gd (v15 = 0 ∨ v15 = 1) (some (w, f14, some (.inl v15)))) := by
  refine ms_iload_n (k := 2) (p' := 3) (by decide +kernel) rfl rfl ?_
  refine ms_bipush (n := 6) (v := 6) (p' := 5) (by decide +kernel) rfl ?_
  refine ms_icmp_gt (off := 106) (t := 111) (p' := 8) (by decide +kernel) rfl (fun hc => ?_) (fun hc => ?_)
  · refine ms_iconst (n := 1) (v := 1) (p' := 112) (by decide +kernel) rfl ?_
    exact (ms_zret (by decide +kernel)).trans (mj_gd_pos (by decide) _)
  · refine ms_aload_n (k := 0) (p' := 9) (by decide +kernel) rfl rfl ?_
    refine ms_geti (idx := 32) (ci := 4) (k := 5) (q := 319) (p' := 12) (by decide +kernel) rfl (k_3 hw) ?_
    refine ms_bipush (n := 9) (v := 9) (p' := 14) (by decide +kernel) rfl ?_
    refine ms_icmp_ne (off := 97) (t := 111) (p' := 17) (by decide +kernel) rfl (fun hc => ?_) (fun hc => ?_)
    · refine ms_iconst (n := 1) (v := 1) (p' := 112) (by decide +kernel) rfl ?_
      exact (ms_zret (by decide +kernel)).trans (mj_gd_pos (by decide) _)
    · refine ms_iload_n (k := 2) (p' := 18) (by decide +kernel) rfl rfl ?_
      refine ms_bipush (n := 6) (v := 6) (p' := 20) (by decide +kernel) rfl ?_
      refine ms_icmp_ne (off := 9) (t := 29) (p' := 23) (by decide +kernel) rfl (fun hc => ?_) (fun hc => ?_)
      · refine ms_aload_n (k := 0) (p' := 30) (by decide +kernel) rfl rfl ?_
        refine ms_virt_u (idx := 56) (cy := yR_advance) (n := 0) (a := 3) (as := []) (rest := []) (p' := 33) (by decide +kernel) rfl rfl rfl rfl (k_3 hw) rfl (fun f1 => ?_)
        refine ms_aload_n (k := 0) (p' := 34) (by decide +kernel) rfl rfl ?_
        refine ms_virt_i (idx := 137) (cy := yR_clockHere) (n := 0) (a := 3) (as := []) (rest := []) (p' := 37) (by decide +kernel) rfl rfl rfl rfl (k_3 hw) rfl (fun f2 v3 => ?_)
        refine ms_istore_n (k := 3) (ls' := [.inr (.inl 3), .inl x1, .inl x2, .inl v3, u4]) (p' := 38) (by decide +kernel) rfl (Nat.le_of_ble_eq_true rfl) rfl ?_
        refine ms_iload_n (k := 3) (p' := 39) (by decide +kernel) rfl rfl ?_
        refine ms_iconst (n := (-1)) (v := (-1)) (p' := 40) (by decide +kernel) rfl ?_
        refine ms_icmp_ne (off := 9) (t := 49) (p' := 43) (by decide +kernel) rfl (fun hc => ?_) (fun hc => ?_)
        · refine ms_aload_n (k := 0) (p' := 50) (by decide +kernel) rfl rfl ?_
          refine ms_virt_u (idx := 56) (cy := yR_advance) (n := 0) (a := 3) (as := []) (rest := []) (p' := 53) (by decide +kernel) rfl rfl rfl rfl (k_3 hw) rfl (fun f4 => ?_)
          refine ms_aload_n (k := 0) (p' := 54) (by decide +kernel) rfl rfl ?_
          refine ms_geti (idx := 32) (ci := 4) (k := 5) (q := 319) (p' := 57) (by decide +kernel) rfl (k_3 hw) ?_
          refine ms_iconst (n := 3) (v := 3) (p' := 58) (by decide +kernel) rfl ?_
          refine ms_icmp_eq (off := 9) (t := 67) (p' := 61) (by decide +kernel) rfl (fun hc => ?_) (fun hc => ?_)
          · refine ms_aload_n (k := 0) (p' := 68) (by decide +kernel) rfl rfl ?_
            refine ms_geti (idx := 38) (ci := 4) (k := 7) (q := 321) (p' := 71) (by decide +kernel) rfl (k_3 hw) ?_
            refine ms_istore (k := 4) (ls' := [.inr (.inl 3), .inl x1, .inl x2, .inl v3, .inl (f4 3 7)]) (p' := 73) (by decide +kernel) rfl (Nat.le_of_ble_eq_true rfl) rfl ?_
            refine ms_aload_n (k := 0) (p' := 74) (by decide +kernel) rfl rfl ?_
            refine ms_virt_u (idx := 56) (cy := yR_advance) (n := 0) (a := 3) (as := []) (rest := []) (p' := 77) (by decide +kernel) rfl rfl rfl rfl (k_3 hw) rfl (fun f5 => ?_)
            refine ms_aload_n (k := 0) (p' := 78) (by decide +kernel) rfl rfl ?_
            refine ms_virt_i (idx := 140) (cy := yR_numberHere) (n := 0) (a := 3) (as := []) (rest := []) (p' := 81) (by decide +kernel) rfl rfl rfl rfl (k_3 hw) rfl (fun f6 v7 => ?_)
            refine ms_if_ne (off := 5) (t := 86) (p' := 84) (by decide +kernel) rfl (fun hc => ?_) (fun hc => ?_)
            · refine ms_aload_n (k := 0) (p' := 87) (by decide +kernel) rfl rfl ?_
              refine ms_getr (idx := 22) (ci := 4) (k := 2) (q := 315) (p' := 90) (by decide +kernel) rfl (k_3 hw) (r_3_2 hw) (pn_0 (fr_pn sw)) ?_
              refine ms_iload_n (k := 1) (p' := 91) (by decide +kernel) rfl rfl ?_
              refine ms_iload_n (k := 3) (p' := 92) (by decide +kernel) rfl rfl ?_
              refine ms_iload (k := 4) (p' := 94) (by decide +kernel) rfl rfl ?_
              refine ms_aload_n (k := 0) (p' := 95) (by decide +kernel) rfl rfl ?_
              refine ms_geti (idx := 38) (ci := 4) (k := 7) (q := 321) (p' := 98) (by decide +kernel) rfl (k_3 hw) ?_
              refine ms_virt_u (idx := 143) (cy := yL_addRule) (n := 4) (a := (fr sw)) (as := [.inl x1, .inl v3, .inl (f4 3 7), .inl (f6 3 7)]) (rest := []) (p' := 101) (by decide +kernel) rfl rfl rfl rfl (pn_k (fr_pn sw) hw) rfl (fun f8 => ?_)
              refine ms_aload_n (k := 0) (p' := 102) (by decide +kernel) rfl rfl ?_
              refine ms_virt_u (idx := 56) (cy := yR_advance) (n := 0) (a := 3) (as := []) (rest := []) (p' := 105) (by decide +kernel) rfl rfl rfl rfl (k_3 hw) rfl (fun f9 => ?_)
              refine ms_iinc (k := 2) (n := 1) (ls' := [.inr (.inl 3), .inl x1, .inl (mj_w (x2 + 1)), .inl v3, .inl (f4 3 7)]) (p' := 108) (by decide +kernel) rfl rfl rfl ?_
              refine ms_goto (off := (-106)) (p' := 2) (by decide +kernel) ?_
              rfl
            · refine ms_iconst (n := 0) (v := 0) (p' := 85) (by decide +kernel) rfl ?_
              exact (ms_zret (by decide +kernel)).trans (mj_gd_pos (by decide) _)
          · refine ms_aload_n (k := 0) (p' := 62) (by decide +kernel) rfl rfl ?_
            refine ms_iconst (n := 1) (v := 1) (p' := 63) (by decide +kernel) rfl ?_
            refine ms_virt_i (idx := 69) (cy := yR_fail) (n := 1) (a := 3) (as := [.inl 1]) (rest := []) (p' := 66) (by decide +kernel) rfl rfl rfl rfl (k_3 hw) rfl (fun f10 v11 => ?_)
            exact ms_zret (by decide +kernel)
        · refine ms_aload_n (k := 0) (p' := 44) (by decide +kernel) rfl rfl ?_
          refine ms_iconst (n := 1) (v := 1) (p' := 45) (by decide +kernel) rfl ?_
          refine ms_virt_i (idx := 69) (cy := yR_fail) (n := 1) (a := 3) (as := [.inl 1]) (rest := []) (p' := 48) (by decide +kernel) rfl rfl rfl rfl (k_3 hw) rfl (fun f12 v13 => ?_)
          exact ms_zret (by decide +kernel)
      · refine ms_aload_n (k := 0) (p' := 24) (by decide +kernel) rfl rfl ?_
        refine ms_iconst (n := 2) (v := 2) (p' := 25) (by decide +kernel) rfl ?_
        refine ms_virt_i (idx := 69) (cy := yR_fail) (n := 1) (a := 3) (as := [.inl 2]) (rest := []) (p' := 28) (by decide +kernel) rfl rfl rfl rfl (k_3 hw) rfl (fun f14 v15 => ?_)
        exact ms_zret (by decide +kernel)
theorem c_R_readPlace {sw : Bool} {w : mj_W} (hw : wk sw w) (f : mj_F)   : mj_call yR_readPlace w f [.inr (.inl 3)] = if (f (fr sw) 2) < 8 then mj_bu (mj_call yR_advance w f [.inr (.inl 3)]) (fun f1 => if (f1 3 5) = 1 then mj_bi (mj_call yL_placeNamed w f1 [.inr (.inl (fr sw)), .inl (f1 3 7)]) (fun f2 v3 => if v3 = (-1) then mj_gd (0 ≤ (f2 (fr sw) 2) ∧ (f2 (fr sw) 2) < ((8 : Nat) : Int)) (mj_bu (mj_call yR_advance w (mj_u (mj_u f2 (fr sw + 2) (f2 (fr sw) 2).toNat (f2 3 7)) (fr sw) 2 (mj_w ((mj_u f2 (fr sw + 2) (f2 (fr sw) 2).toNat (f2 3 7) (fr sw) 2) + 1))) [.inr (.inl 3)]) (fun f5 => mj_bi (mj_call yX_stayRules w f5 [.inl (f2 (fr sw) 2)]) (fun f6 v7 => mj_bi (mj_call yR_readWhens w f6 [.inr (.inl 3), .inl v7]) (fun f8 v9 => mj_gd (v9 = 0 ∨ v9 = 1) (some (w, f8, some (.inl v9))))))) else mj_bi (mj_call yR_fail w f2 [.inr (.inl 3), .inl 3]) (fun f10 v11 => mj_gd (v11 = 0 ∨ v11 = 1) (some (w, f10, some (.inl v11))))) else mj_bi (mj_call yR_fail w f1 [.inr (.inl 3), .inl 1]) (fun f12 v13 => mj_gd (v13 = 0 ∨ v13 = 1) (some (w, f12, some (.inl v13))))) else mj_bi (mj_call yR_fail w f [.inr (.inl 3), .inl 2]) (fun f14 v15 => mj_gd (v15 = 0 ∨ v15 = 1) (some (w, f14, some (.inl v15)))) := by
  show mj_run yR_readPlace w f 0 [.inr (.inl 3), .inr (.inr (.inr 0))] [] = _
  refine ms_aload_n (k := 0) (p' := 1) (by decide +kernel) rfl rfl ?_
  refine ms_getr (idx := 22) (ci := 4) (k := 2) (q := 315) (p' := 4) (by decide +kernel) rfl (k_3 hw) (r_3_2 hw) (pn_0 (fr_pn sw)) ?_
  refine ms_geti (idx := 66) (ci := 3) (k := 2) (q := 209) (p' := 7) (by decide +kernel) rfl (pn_k (fr_pn sw) hw) ?_
  refine ms_bipush (n := 8) (v := 8) (p' := 9) (by decide +kernel) rfl ?_
  refine ms_icmp_lt (off := 9) (t := 18) (p' := 12) (by decide +kernel) rfl (fun hc => ?_) (fun hc => ?_)
  · refine ms_aload_n (k := 0) (p' := 19) (by decide +kernel) rfl rfl ?_
    refine ms_virt_u (idx := 56) (cy := yR_advance) (n := 0) (a := 3) (as := []) (rest := []) (p' := 22) (by decide +kernel) rfl rfl rfl rfl (k_3 hw) rfl (fun f1 => ?_)
    refine ms_aload_n (k := 0) (p' := 23) (by decide +kernel) rfl rfl ?_
    refine ms_geti (idx := 32) (ci := 4) (k := 5) (q := 319) (p' := 26) (by decide +kernel) rfl (k_3 hw) ?_
    refine ms_iconst (n := 1) (v := 1) (p' := 27) (by decide +kernel) rfl ?_
    refine ms_icmp_eq (off := 9) (t := 36) (p' := 30) (by decide +kernel) rfl (fun hc => ?_) (fun hc => ?_)
    · refine ms_aload_n (k := 0) (p' := 37) (by decide +kernel) rfl rfl ?_
      refine ms_getr (idx := 22) (ci := 4) (k := 2) (q := 315) (p' := 40) (by decide +kernel) rfl (k_3 hw) (r_3_2 hw) (pn_0 (fr_pn sw)) ?_
      refine ms_aload_n (k := 0) (p' := 41) (by decide +kernel) rfl rfl ?_
      refine ms_geti (idx := 38) (ci := 4) (k := 7) (q := 321) (p' := 44) (by decide +kernel) rfl (k_3 hw) ?_
      refine ms_virt_i (idx := 99) (cy := yL_placeNamed) (n := 1) (a := (fr sw)) (as := [.inl (f1 3 7)]) (rest := []) (p' := 47) (by decide +kernel) rfl rfl rfl rfl (pn_k (fr_pn sw) hw) rfl (fun f2 v3 => ?_)
      refine ms_iconst (n := (-1)) (v := (-1)) (p' := 48) (by decide +kernel) rfl ?_
      refine ms_icmp_eq (off := 9) (t := 57) (p' := 51) (by decide +kernel) rfl (fun hc => ?_) (fun hc => ?_)
      · refine ms_aload_n (k := 0) (p' := 58) (by decide +kernel) rfl rfl ?_
        refine ms_getr (idx := 22) (ci := 4) (k := 2) (q := 315) (p' := 61) (by decide +kernel) rfl (k_3 hw) (r_3_2 hw) (pn_0 (fr_pn sw)) ?_
        refine ms_geti (idx := 66) (ci := 3) (k := 2) (q := 209) (p' := 64) (by decide +kernel) rfl (pn_k (fr_pn sw) hw) ?_
        refine ms_istore_n (k := 1) (ls' := [.inr (.inl 3), .inl (f2 (fr sw) 2)]) (p' := 65) (by decide +kernel) rfl (Nat.le_of_ble_eq_true rfl) rfl ?_
        refine ms_aload_n (k := 0) (p' := 66) (by decide +kernel) rfl rfl ?_
        refine ms_getr (idx := 22) (ci := 4) (k := 2) (q := 315) (p' := 69) (by decide +kernel) rfl (k_3 hw) (r_3_2 hw) (pn_0 (fr_pn sw)) ?_
        refine ms_getr (idx := 102) (ci := 3) (k := 7) (q := 227) (p' := 72) (by decide +kernel) rfl (pn_k (fr_pn sw) hw) (pn_r7 (fr_pn sw) hw) (by omega) ?_
        refine ms_iload_n (k := 1) (p' := 73) (by decide +kernel) rfl rfl ?_
        refine ms_aload_n (k := 0) (p' := 74) (by decide +kernel) rfl rfl ?_
        refine ms_geti (idx := 38) (ci := 4) (k := 7) (q := 321) (p' := 77) (by decide +kernel) rfl (k_3 hw) ?_
        refine ms_iast (p' := 78) (by decide +kernel) rfl (pn_k7 (fr_pn sw) hw) (fun hj4 => ?_)
        refine ms_aload_n (k := 0) (p' := 79) (by decide +kernel) rfl rfl ?_
        refine ms_getr (idx := 22) (ci := 4) (k := 2) (q := 315) (p' := 82) (by decide +kernel) rfl (k_3 hw) (r_3_2 hw) (pn_0 (fr_pn sw)) ?_
        refine ms_dup_a (p' := 83) (by decide +kernel) rfl ?_
        refine ms_geti (idx := 66) (ci := 3) (k := 2) (q := 209) (p' := 86) (by decide +kernel) rfl (pn_k (fr_pn sw) hw) ?_
        refine ms_iconst (n := 1) (v := 1) (p' := 87) (by decide +kernel) rfl ?_
        refine ms_iadd (p' := 88) (by decide +kernel) rfl ?_
        refine ms_puti (idx := 66) (ci := 3) (k := 2) (q := 209) (p' := 91) (by decide +kernel) rfl (pn_k (fr_pn sw) hw) ?_
        refine ms_aload_n (k := 0) (p' := 92) (by decide +kernel) rfl rfl ?_
        refine ms_virt_u (idx := 56) (cy := yR_advance) (n := 0) (a := 3) (as := []) (rest := []) (p' := 95) (by decide +kernel) rfl rfl rfl rfl (k_3 hw) rfl (fun f5 => ?_)
        refine ms_aload_n (k := 0) (p' := 96) (by decide +kernel) rfl rfl ?_
        refine ms_iload_n (k := 1) (p' := 97) (by decide +kernel) rfl rfl ?_
        refine ms_stat_i (idx := 105) (cy := yX_stayRules) (n := 1) (as := [.inl (f2 (fr sw) 2)]) (rest := [.inr (.inl 3)]) (p' := 100) (by decide +kernel) rfl rfl rfl rfl rfl (fun f6 v7 => ?_)
        refine ms_virt_i (idx := 108) (cy := yR_readWhens) (n := 1) (a := 3) (as := [.inl v7]) (rest := []) (p' := 103) (by decide +kernel) rfl rfl rfl rfl (k_3 hw) rfl (fun f8 v9 => ?_)
        exact ms_zret (by decide +kernel)
      · refine ms_aload_n (k := 0) (p' := 52) (by decide +kernel) rfl rfl ?_
        refine ms_iconst (n := 3) (v := 3) (p' := 53) (by decide +kernel) rfl ?_
        refine ms_virt_i (idx := 69) (cy := yR_fail) (n := 1) (a := 3) (as := [.inl 3]) (rest := []) (p' := 56) (by decide +kernel) rfl rfl rfl rfl (k_3 hw) rfl (fun f10 v11 => ?_)
        exact ms_zret (by decide +kernel)
    · refine ms_aload_n (k := 0) (p' := 31) (by decide +kernel) rfl rfl ?_
      refine ms_iconst (n := 1) (v := 1) (p' := 32) (by decide +kernel) rfl ?_
      refine ms_virt_i (idx := 69) (cy := yR_fail) (n := 1) (a := 3) (as := [.inl 1]) (rest := []) (p' := 35) (by decide +kernel) rfl rfl rfl rfl (k_3 hw) rfl (fun f12 v13 => ?_)
      exact ms_zret (by decide +kernel)
  · refine ms_aload_n (k := 0) (p' := 13) (by decide +kernel) rfl rfl ?_
    refine ms_iconst (n := 2) (v := 2) (p' := 14) (by decide +kernel) rfl ?_
    refine ms_virt_i (idx := 69) (cy := yR_fail) (n := 1) (a := 3) (as := [.inl 2]) (rest := []) (p' := 17) (by decide +kernel) rfl rfl rfl rfl (k_3 hw) rfl (fun f14 v15 => ?_)
    exact ms_zret (by decide +kernel)
theorem c_R_placeHere {sw : Bool} {w : mj_W} (hw : wk sw w) (f : mj_F)   : mj_call yR_placeHere w f [.inr (.inl 3)] = if ¬ (f 3 5) = 1 then some (w, f, some (.inl (-1))) else mj_bi (mj_call yL_placeNamed w f [.inr (.inl (fr sw)), .inl (f 3 7)]) (fun f1 v2 => some (w, f1, some (.inl v2))) := by
  show mj_run yR_placeHere w f 0 [.inr (.inl 3)] [] = _
  refine ms_aload_n (k := 0) (p' := 1) (by decide +kernel) rfl rfl ?_
  refine ms_geti (idx := 32) (ci := 4) (k := 5) (q := 319) (p' := 4) (by decide +kernel) rfl (k_3 hw) ?_
  refine ms_iconst (n := 1) (v := 1) (p' := 5) (by decide +kernel) rfl ?_
  refine ms_icmp_ne (off := 17) (t := 22) (p' := 8) (by decide +kernel) rfl (fun hc => ?_) (fun hc => ?_)
  · refine ms_iconst (n := (-1)) (v := (-1)) (p' := 23) (by decide +kernel) rfl ?_
    exact ms_iret (by decide +kernel)
  · refine ms_aload_n (k := 0) (p' := 9) (by decide +kernel) rfl rfl ?_
    refine ms_getr (idx := 22) (ci := 4) (k := 2) (q := 315) (p' := 12) (by decide +kernel) rfl (k_3 hw) (r_3_2 hw) (pn_0 (fr_pn sw)) ?_
    refine ms_aload_n (k := 0) (p' := 13) (by decide +kernel) rfl rfl ?_
    refine ms_geti (idx := 38) (ci := 4) (k := 7) (q := 321) (p' := 16) (by decide +kernel) rfl (k_3 hw) ?_
    refine ms_virt_i (idx := 99) (cy := yL_placeNamed) (n := 1) (a := (fr sw)) (as := [.inl (f 3 7)]) (rest := []) (p' := 19) (by decide +kernel) rfl rfl rfl rfl (pn_k (fr_pn sw) hw) rfl (fun f1 v2 => ?_)
    refine ms_goto (off := 4) (p' := 23) (by decide +kernel) ?_
    exact ms_iret (by decide +kernel)
theorem c_R_readSets {sw : Bool} {w : mj_W} (hw : wk sw w) (f : mj_F) (x1 : Int)  : mj_call yR_readSets w f [.inr (.inl 3), .inl x1] = mj_run yR_readSets w f 2 [.inr (.inl 3), .inl x1, .inl 0, .inr (.inr (.inr 0))] [] := by
  show mj_run yR_readSets w f 0 [.inr (.inl 3), .inl x1, .inr (.inr (.inr 0)), .inr (.inr (.inr 0))] [] = _
  refine ms_iconst (n := 0) (v := 0) (p' := 1) (by decide +kernel) rfl ?_
  refine ms_istore_n (k := 2) (ls' := [.inr (.inl 3), .inl x1, .inl 0, .inr (.inr (.inr 0))]) (p' := 2) (by decide +kernel) rfl (Nat.le_of_ble_eq_true rfl) rfl ?_
  rfl
theorem l_R_readSets_2 {sw : Bool} {w : mj_W} (hw : wk sw w) (f : mj_F) (x1 : Int) (x2 : Int) (u3 : mj_V)  : mj_run yR_readSets w f 2 [.inr (.inl 3), .inl x1, .inl x2, u3] [] = if 4 < x2 then some (w, f, some (.inl 1)) else if ¬ (f 3 5) = 10 then some (w, f, some (.inl 1)) else if ¬ x2 = 4 then mj_bu (mj_call yR_advance w f [.inr (.inl 3)]) (fun f1 => mj_bi (mj_call yR_clockHere w f1 [.inr (.inl 3)]) (fun f2 v3 => if ¬ v3 = (-1) then mj_bi (mj_call yL_numberSet w f2 [.inr (.inl (fr sw)), .inl x1, .inl v3]) (fun f4 v5 => if v5 = (-1) then mj_bu (mj_call yR_advance w f4 [.inr (.inl 3)]) (fun f6 => mj_bi (mj_call yR_numberHere w f6 [.inr (.inl 3)]) (fun f7 v8 => if ¬ v8 = 0 then mj_bu (mj_call yL_addSet w f7 [.inr (.inl (fr sw)), .inl x1, .inl v3, .inl (f7 3 7)]) (fun f9 => mj_bu (mj_call yR_advance w f9 [.inr (.inl 3)]) (fun f10 => mj_run yR_readSets w f10 2 [.inr (.inl 3), .inl x1, .inl (mj_w (x2 + 1)), .inl v3] [])) else some (w, f7, some (.inl 0)))) else mj_bi (mj_call yR_fail w f4 [.inr (.inl 3), .inl 3]) (fun f11 v12 => mj_gd (v12 = 0 ∨ v12 = 1) (some (w, f11, some (.inl v12))))) else mj_bi (mj_call yR_fail w f2 [.inr (.inl 3), .inl 1]) (fun f13 v14 => mj_gd (v14 = 0 ∨ v14 = 1) (some (w, f13, some (.inl v14)))))) else mj_bi (mj_call yR_fail w f [.inr (.inl 3), .inl 2]) (fun f15 v16 => mj_gd (v16 = 0 ∨ v16 = 1) (some (w, f15, some (.inl v16)))) := by
  refine ms_iload_n (k := 2) (p' := 3) (by decide +kernel) rfl rfl ?_
  refine ms_iconst (n := 4) (v := 4) (p' := 4) (by decide +kernel) rfl ?_
  refine ms_icmp_gt (off := 98) (t := 102) (p' := 7) (by decide +kernel) rfl (fun hc => ?_) (fun hc => ?_)
  · refine ms_iconst (n := 1) (v := 1) (p' := 103) (by decide +kernel) rfl ?_
    exact (ms_zret (by decide +kernel)).trans (mj_gd_pos (by decide) _)
  · refine ms_aload_n (k := 0) (p' := 8) (by decide +kernel) rfl rfl ?_
    refine ms_geti (idx := 32) (ci := 4) (k := 5) (q := 319) (p' := 11) (by decide +kernel) rfl (k_3 hw) ?_
    refine ms_bipush (n := 10) (v := 10) (p' := 13) (by decide +kernel) rfl ?_
    refine ms_icmp_ne (off := 89) (t := 102) (p' := 16) (by decide +kernel) rfl (fun hc => ?_) (fun hc => ?_)
    · refine ms_iconst (n := 1) (v := 1) (p' := 103) (by decide +kernel) rfl ?_
      exact (ms_zret (by decide +kernel)).trans (mj_gd_pos (by decide) _)
    · refine ms_iload_n (k := 2) (p' := 17) (by decide +kernel) rfl rfl ?_
      refine ms_iconst (n := 4) (v := 4) (p' := 18) (by decide +kernel) rfl ?_
      refine ms_icmp_ne (off := 9) (t := 27) (p' := 21) (by decide +kernel) rfl (fun hc => ?_) (fun hc => ?_)
      · refine ms_aload_n (k := 0) (p' := 28) (by decide +kernel) rfl rfl ?_
        refine ms_virt_u (idx := 56) (cy := yR_advance) (n := 0) (a := 3) (as := []) (rest := []) (p' := 31) (by decide +kernel) rfl rfl rfl rfl (k_3 hw) rfl (fun f1 => ?_)
        refine ms_aload_n (k := 0) (p' := 32) (by decide +kernel) rfl rfl ?_
        refine ms_virt_i (idx := 137) (cy := yR_clockHere) (n := 0) (a := 3) (as := []) (rest := []) (p' := 35) (by decide +kernel) rfl rfl rfl rfl (k_3 hw) rfl (fun f2 v3 => ?_)
        refine ms_istore_n (k := 3) (ls' := [.inr (.inl 3), .inl x1, .inl x2, .inl v3]) (p' := 36) (by decide +kernel) rfl (Nat.le_of_ble_eq_true rfl) rfl ?_
        refine ms_iload_n (k := 3) (p' := 37) (by decide +kernel) rfl rfl ?_
        refine ms_iconst (n := (-1)) (v := (-1)) (p' := 38) (by decide +kernel) rfl ?_
        refine ms_icmp_ne (off := 9) (t := 47) (p' := 41) (by decide +kernel) rfl (fun hc => ?_) (fun hc => ?_)
        · refine ms_aload_n (k := 0) (p' := 48) (by decide +kernel) rfl rfl ?_
          refine ms_getr (idx := 22) (ci := 4) (k := 2) (q := 315) (p' := 51) (by decide +kernel) rfl (k_3 hw) (r_3_2 hw) (pn_0 (fr_pn sw)) ?_
          refine ms_iload_n (k := 1) (p' := 52) (by decide +kernel) rfl rfl ?_
          refine ms_iload_n (k := 3) (p' := 53) (by decide +kernel) rfl rfl ?_
          refine ms_virt_i (idx := 147) (cy := yL_numberSet) (n := 2) (a := (fr sw)) (as := [.inl x1, .inl v3]) (rest := []) (p' := 56) (by decide +kernel) rfl rfl rfl rfl (pn_k (fr_pn sw) hw) rfl (fun f4 v5 => ?_)
          refine ms_iconst (n := (-1)) (v := (-1)) (p' := 57) (by decide +kernel) rfl ?_
          refine ms_icmp_eq (off := 9) (t := 66) (p' := 60) (by decide +kernel) rfl (fun hc => ?_) (fun hc => ?_)
          · refine ms_aload_n (k := 0) (p' := 67) (by decide +kernel) rfl rfl ?_
            refine ms_virt_u (idx := 56) (cy := yR_advance) (n := 0) (a := 3) (as := []) (rest := []) (p' := 70) (by decide +kernel) rfl rfl rfl rfl (k_3 hw) rfl (fun f6 => ?_)
            refine ms_aload_n (k := 0) (p' := 71) (by decide +kernel) rfl rfl ?_
            refine ms_virt_i (idx := 140) (cy := yR_numberHere) (n := 0) (a := 3) (as := []) (rest := []) (p' := 74) (by decide +kernel) rfl rfl rfl rfl (k_3 hw) rfl (fun f7 v8 => ?_)
            refine ms_if_ne (off := 5) (t := 79) (p' := 77) (by decide +kernel) rfl (fun hc => ?_) (fun hc => ?_)
            · refine ms_aload_n (k := 0) (p' := 80) (by decide +kernel) rfl rfl ?_
              refine ms_getr (idx := 22) (ci := 4) (k := 2) (q := 315) (p' := 83) (by decide +kernel) rfl (k_3 hw) (r_3_2 hw) (pn_0 (fr_pn sw)) ?_
              refine ms_iload_n (k := 1) (p' := 84) (by decide +kernel) rfl rfl ?_
              refine ms_iload_n (k := 3) (p' := 85) (by decide +kernel) rfl rfl ?_
              refine ms_aload_n (k := 0) (p' := 86) (by decide +kernel) rfl rfl ?_
              refine ms_geti (idx := 38) (ci := 4) (k := 7) (q := 321) (p' := 89) (by decide +kernel) rfl (k_3 hw) ?_
              refine ms_virt_u (idx := 150) (cy := yL_addSet) (n := 3) (a := (fr sw)) (as := [.inl x1, .inl v3, .inl (f7 3 7)]) (rest := []) (p' := 92) (by decide +kernel) rfl rfl rfl rfl (pn_k (fr_pn sw) hw) rfl (fun f9 => ?_)
              refine ms_aload_n (k := 0) (p' := 93) (by decide +kernel) rfl rfl ?_
              refine ms_virt_u (idx := 56) (cy := yR_advance) (n := 0) (a := 3) (as := []) (rest := []) (p' := 96) (by decide +kernel) rfl rfl rfl rfl (k_3 hw) rfl (fun f10 => ?_)
              refine ms_iinc (k := 2) (n := 1) (ls' := [.inr (.inl 3), .inl x1, .inl (mj_w (x2 + 1)), .inl v3]) (p' := 99) (by decide +kernel) rfl rfl rfl ?_
              refine ms_goto (off := (-97)) (p' := 2) (by decide +kernel) ?_
              rfl
            · refine ms_iconst (n := 0) (v := 0) (p' := 78) (by decide +kernel) rfl ?_
              exact (ms_zret (by decide +kernel)).trans (mj_gd_pos (by decide) _)
          · refine ms_aload_n (k := 0) (p' := 61) (by decide +kernel) rfl rfl ?_
            refine ms_iconst (n := 3) (v := 3) (p' := 62) (by decide +kernel) rfl ?_
            refine ms_virt_i (idx := 69) (cy := yR_fail) (n := 1) (a := 3) (as := [.inl 3]) (rest := []) (p' := 65) (by decide +kernel) rfl rfl rfl rfl (k_3 hw) rfl (fun f11 v12 => ?_)
            exact ms_zret (by decide +kernel)
        · refine ms_aload_n (k := 0) (p' := 42) (by decide +kernel) rfl rfl ?_
          refine ms_iconst (n := 1) (v := 1) (p' := 43) (by decide +kernel) rfl ?_
          refine ms_virt_i (idx := 69) (cy := yR_fail) (n := 1) (a := 3) (as := [.inl 1]) (rest := []) (p' := 46) (by decide +kernel) rfl rfl rfl rfl (k_3 hw) rfl (fun f13 v14 => ?_)
          exact ms_zret (by decide +kernel)
      · refine ms_aload_n (k := 0) (p' := 22) (by decide +kernel) rfl rfl ?_
        refine ms_iconst (n := 2) (v := 2) (p' := 23) (by decide +kernel) rfl ?_
        refine ms_virt_i (idx := 69) (cy := yR_fail) (n := 1) (a := 3) (as := [.inl 2]) (rest := []) (p' := 26) (by decide +kernel) rfl rfl rfl rfl (k_3 hw) rfl (fun f15 v16 => ?_)
        exact ms_zret (by decide +kernel)
theorem c_R_readEdge {sw : Bool} {w : mj_W} (hw : wk sw w) (f : mj_F)   : mj_call yR_readEdge w f [.inr (.inl 3)] = if (f (fr sw) 3) < 16 then mj_bu (mj_call yR_advance w f [.inr (.inl 3)]) (fun f1 => mj_bi (mj_call yR_placeHere w f1 [.inr (.inl 3)]) (fun f2 v3 => if ¬ v3 = (-1) then mj_bu (mj_call yR_advance w f2 [.inr (.inl 3)]) (fun f4 => mj_bi (mj_call yR_placeHere w f4 [.inr (.inl 3)]) (fun f5 v6 => if ¬ v6 = (-1) then mj_bu (mj_call yR_advance w f5 [.inr (.inl 3)]) (fun f7 => mj_gd (0 ≤ (f (fr sw) 3) ∧ (f (fr sw) 3) < ((16 : Nat) : Int)) (mj_gd (0 ≤ (f (fr sw) 3) ∧ (f (fr sw) 3) < ((16 : Nat) : Int)) (mj_bi (mj_call yX_edgeRules w (mj_u (mj_u (mj_u f7 (fr sw + 8) (f (fr sw) 3).toNat v3) (fr sw + 9) (f (fr sw) 3).toNat v6) (fr sw) 3 (mj_w ((mj_u (mj_u f7 (fr sw + 8) (f (fr sw) 3).toNat v3) (fr sw + 9) (f (fr sw) 3).toNat v6 (fr sw) 3) + 1))) [.inl (f (fr sw) 3)]) (fun f10 v11 => mj_bi (mj_call yR_readWhens w f10 [.inr (.inl 3), .inl v11]) (fun f12 v13 => if v13 = 0 then some (w, f12, some (.inl 0)) else mj_bi (mj_call yR_readSets w f12 [.inr (.inl 3), .inl (f (fr sw) 3)]) (fun f14 v15 => if v15 = 0 then some (w, f14, some (.inl 0)) else some (w, f14, some (.inl 1)))))))) else mj_bi (mj_call yR_fail w f5 [.inr (.inl 3), .inl 1]) (fun f16 v17 => mj_gd (v17 = 0 ∨ v17 = 1) (some (w, f16, some (.inl v17)))))) else mj_bi (mj_call yR_fail w f2 [.inr (.inl 3), .inl 1]) (fun f18 v19 => mj_gd (v19 = 0 ∨ v19 = 1) (some (w, f18, some (.inl v19)))))) else mj_bi (mj_call yR_fail w f [.inr (.inl 3), .inl 2]) (fun f20 v21 => mj_gd (v21 = 0 ∨ v21 = 1) (some (w, f20, some (.inl v21)))) := by
  show mj_run yR_readEdge w f 0 [.inr (.inl 3), .inr (.inr (.inr 0)), .inr (.inr (.inr 0)), .inr (.inr (.inr 0))] [] = _
  refine ms_aload_n (k := 0) (p' := 1) (by decide +kernel) rfl rfl ?_
  refine ms_getr (idx := 22) (ci := 4) (k := 2) (q := 315) (p' := 4) (by decide +kernel) rfl (k_3 hw) (r_3_2 hw) (pn_0 (fr_pn sw)) ?_
  refine ms_geti (idx := 111) (ci := 3) (k := 3) (q := 213) (p' := 7) (by decide +kernel) rfl (pn_k (fr_pn sw) hw) ?_
  refine ms_bipush (n := 16) (v := 16) (p' := 9) (by decide +kernel) rfl ?_
  refine ms_icmp_lt (off := 9) (t := 18) (p' := 12) (by decide +kernel) rfl (fun hc => ?_) (fun hc => ?_)
  · refine ms_aload_n (k := 0) (p' := 19) (by decide +kernel) rfl rfl ?_
    refine ms_getr (idx := 22) (ci := 4) (k := 2) (q := 315) (p' := 22) (by decide +kernel) rfl (k_3 hw) (r_3_2 hw) (pn_0 (fr_pn sw)) ?_
    refine ms_geti (idx := 111) (ci := 3) (k := 3) (q := 213) (p' := 25) (by decide +kernel) rfl (pn_k (fr_pn sw) hw) ?_
    refine ms_istore_n (k := 1) (ls' := [.inr (.inl 3), .inl (f (fr sw) 3), .inr (.inr (.inr 0)), .inr (.inr (.inr 0))]) (p' := 26) (by decide +kernel) rfl (Nat.le_of_ble_eq_true rfl) rfl ?_
    refine ms_aload_n (k := 0) (p' := 27) (by decide +kernel) rfl rfl ?_
    refine ms_virt_u (idx := 56) (cy := yR_advance) (n := 0) (a := 3) (as := []) (rest := []) (p' := 30) (by decide +kernel) rfl rfl rfl rfl (k_3 hw) rfl (fun f1 => ?_)
    refine ms_aload_n (k := 0) (p' := 31) (by decide +kernel) rfl rfl ?_
    refine ms_virt_i (idx := 114) (cy := yR_placeHere) (n := 0) (a := 3) (as := []) (rest := []) (p' := 34) (by decide +kernel) rfl rfl rfl rfl (k_3 hw) rfl (fun f2 v3 => ?_)
    refine ms_istore_n (k := 2) (ls' := [.inr (.inl 3), .inl (f (fr sw) 3), .inl v3, .inr (.inr (.inr 0))]) (p' := 35) (by decide +kernel) rfl (Nat.le_of_ble_eq_true rfl) rfl ?_
    refine ms_iload_n (k := 2) (p' := 36) (by decide +kernel) rfl rfl ?_
    refine ms_iconst (n := (-1)) (v := (-1)) (p' := 37) (by decide +kernel) rfl ?_
    refine ms_icmp_ne (off := 9) (t := 46) (p' := 40) (by decide +kernel) rfl (fun hc => ?_) (fun hc => ?_)
    · refine ms_aload_n (k := 0) (p' := 47) (by decide +kernel) rfl rfl ?_
      refine ms_virt_u (idx := 56) (cy := yR_advance) (n := 0) (a := 3) (as := []) (rest := []) (p' := 50) (by decide +kernel) rfl rfl rfl rfl (k_3 hw) rfl (fun f4 => ?_)
      refine ms_aload_n (k := 0) (p' := 51) (by decide +kernel) rfl rfl ?_
      refine ms_virt_i (idx := 114) (cy := yR_placeHere) (n := 0) (a := 3) (as := []) (rest := []) (p' := 54) (by decide +kernel) rfl rfl rfl rfl (k_3 hw) rfl (fun f5 v6 => ?_)
      refine ms_istore_n (k := 3) (ls' := [.inr (.inl 3), .inl (f (fr sw) 3), .inl v3, .inl v6]) (p' := 55) (by decide +kernel) rfl (Nat.le_of_ble_eq_true rfl) rfl ?_
      refine ms_iload_n (k := 3) (p' := 56) (by decide +kernel) rfl rfl ?_
      refine ms_iconst (n := (-1)) (v := (-1)) (p' := 57) (by decide +kernel) rfl ?_
      refine ms_icmp_ne (off := 9) (t := 66) (p' := 60) (by decide +kernel) rfl (fun hc => ?_) (fun hc => ?_)
      · refine ms_aload_n (k := 0) (p' := 67) (by decide +kernel) rfl rfl ?_
        refine ms_virt_u (idx := 56) (cy := yR_advance) (n := 0) (a := 3) (as := []) (rest := []) (p' := 70) (by decide +kernel) rfl rfl rfl rfl (k_3 hw) rfl (fun f7 => ?_)
        refine ms_aload_n (k := 0) (p' := 71) (by decide +kernel) rfl rfl ?_
        refine ms_getr (idx := 22) (ci := 4) (k := 2) (q := 315) (p' := 74) (by decide +kernel) rfl (k_3 hw) (r_3_2 hw) (pn_0 (fr_pn sw)) ?_
        refine ms_getr (idx := 118) (ci := 3) (k := 13) (q := 252) (p' := 77) (by decide +kernel) rfl (pn_k (fr_pn sw) hw) (pn_r13 (fr_pn sw) hw) (by omega) ?_
        refine ms_iload_n (k := 1) (p' := 78) (by decide +kernel) rfl rfl ?_
        refine ms_iload_n (k := 2) (p' := 79) (by decide +kernel) rfl rfl ?_
        refine ms_iast (p' := 80) (by decide +kernel) rfl (pn_k13 (fr_pn sw) hw) (fun hj8 => ?_)
        refine ms_aload_n (k := 0) (p' := 81) (by decide +kernel) rfl rfl ?_
        refine ms_getr (idx := 22) (ci := 4) (k := 2) (q := 315) (p' := 84) (by decide +kernel) rfl (k_3 hw) (r_3_2 hw) (pn_0 (fr_pn sw)) ?_
        refine ms_getr (idx := 121) (ci := 3) (k := 14) (q := 259) (p' := 87) (by decide +kernel) rfl (pn_k (fr_pn sw) hw) (pn_r14 (fr_pn sw) hw) (by omega) ?_
        refine ms_iload_n (k := 1) (p' := 88) (by decide +kernel) rfl rfl ?_
        refine ms_iload_n (k := 3) (p' := 89) (by decide +kernel) rfl rfl ?_
        refine ms_iast (p' := 90) (by decide +kernel) rfl (pn_k14 (fr_pn sw) hw) (fun hj9 => ?_)
        refine ms_aload_n (k := 0) (p' := 91) (by decide +kernel) rfl rfl ?_
        refine ms_getr (idx := 22) (ci := 4) (k := 2) (q := 315) (p' := 94) (by decide +kernel) rfl (k_3 hw) (r_3_2 hw) (pn_0 (fr_pn sw)) ?_
        refine ms_dup_a (p' := 95) (by decide +kernel) rfl ?_
        refine ms_geti (idx := 111) (ci := 3) (k := 3) (q := 213) (p' := 98) (by decide +kernel) rfl (pn_k (fr_pn sw) hw) ?_
        refine ms_iconst (n := 1) (v := 1) (p' := 99) (by decide +kernel) rfl ?_
        refine ms_iadd (p' := 100) (by decide +kernel) rfl ?_
        refine ms_puti (idx := 111) (ci := 3) (k := 3) (q := 213) (p' := 103) (by decide +kernel) rfl (pn_k (fr_pn sw) hw) ?_
        refine ms_aload_n (k := 0) (p' := 104) (by decide +kernel) rfl rfl ?_
        refine ms_iload_n (k := 1) (p' := 105) (by decide +kernel) rfl rfl ?_
        refine ms_stat_i (idx := 124) (cy := yX_edgeRules) (n := 1) (as := [.inl (f (fr sw) 3)]) (rest := [.inr (.inl 3)]) (p' := 108) (by decide +kernel) rfl rfl rfl rfl rfl (fun f10 v11 => ?_)
        refine ms_virt_i (idx := 108) (cy := yR_readWhens) (n := 1) (a := 3) (as := [.inl v11]) (rest := []) (p' := 111) (by decide +kernel) rfl rfl rfl rfl (k_3 hw) rfl (fun f12 v13 => ?_)
        refine ms_if_eq (off := 15) (t := 126) (p' := 114) (by decide +kernel) rfl (fun hc => ?_) (fun hc => ?_)
        · refine ms_iconst (n := 0) (v := 0) (p' := 127) (by decide +kernel) rfl ?_
          exact (ms_zret (by decide +kernel)).trans (mj_gd_pos (by decide) _)
        · refine ms_aload_n (k := 0) (p' := 115) (by decide +kernel) rfl rfl ?_
          refine ms_iload_n (k := 1) (p' := 116) (by decide +kernel) rfl rfl ?_
          refine ms_virt_i (idx := 127) (cy := yR_readSets) (n := 1) (a := 3) (as := [.inl (f (fr sw) 3)]) (rest := []) (p' := 119) (by decide +kernel) rfl rfl rfl rfl (k_3 hw) rfl (fun f14 v15 => ?_)
          refine ms_if_eq (off := 7) (t := 126) (p' := 122) (by decide +kernel) rfl (fun hc => ?_) (fun hc => ?_)
          · refine ms_iconst (n := 0) (v := 0) (p' := 127) (by decide +kernel) rfl ?_
            exact (ms_zret (by decide +kernel)).trans (mj_gd_pos (by decide) _)
          · refine ms_iconst (n := 1) (v := 1) (p' := 123) (by decide +kernel) rfl ?_
            refine ms_goto (off := 4) (p' := 127) (by decide +kernel) ?_
            exact (ms_zret (by decide +kernel)).trans (mj_gd_pos (by decide) _)
      · refine ms_aload_n (k := 0) (p' := 61) (by decide +kernel) rfl rfl ?_
        refine ms_iconst (n := 1) (v := 1) (p' := 62) (by decide +kernel) rfl ?_
        refine ms_virt_i (idx := 69) (cy := yR_fail) (n := 1) (a := 3) (as := [.inl 1]) (rest := []) (p' := 65) (by decide +kernel) rfl rfl rfl rfl (k_3 hw) rfl (fun f16 v17 => ?_)
        exact ms_zret (by decide +kernel)
    · refine ms_aload_n (k := 0) (p' := 41) (by decide +kernel) rfl rfl ?_
      refine ms_iconst (n := 1) (v := 1) (p' := 42) (by decide +kernel) rfl ?_
      refine ms_virt_i (idx := 69) (cy := yR_fail) (n := 1) (a := 3) (as := [.inl 1]) (rest := []) (p' := 45) (by decide +kernel) rfl rfl rfl rfl (k_3 hw) rfl (fun f18 v19 => ?_)
      exact ms_zret (by decide +kernel)
  · refine ms_aload_n (k := 0) (p' := 13) (by decide +kernel) rfl rfl ?_
    refine ms_iconst (n := 2) (v := 2) (p' := 14) (by decide +kernel) rfl ?_
    refine ms_virt_i (idx := 69) (cy := yR_fail) (n := 1) (a := 3) (as := [.inl 2]) (rest := []) (p' := 17) (by decide +kernel) rfl rfl rfl rfl (k_3 hw) rfl (fun f20 v21 => ?_)
    exact ms_zret (by decide +kernel)
theorem c_R_readStart {sw : Bool} {w : mj_W} (hw : wk sw w) (f : mj_F)   : mj_call yR_readStart w f [.inr (.inl 3)] = if (f (fr sw) 5) = 0 then mj_bu (mj_call yR_advance w f [.inr (.inl 3)]) (fun f1 => mj_bi (mj_call yR_placeHere w f1 [.inr (.inl 3)]) (fun f2 v3 => if ¬ v3 = (-1) then mj_bu (mj_call yR_advance w (mj_u (mj_u f2 (fr sw) 4 v3) (fr sw) 5 1) [.inr (.inl 3)]) (fun f4 => some (w, f4, some (.inl 1))) else mj_bi (mj_call yR_fail w f2 [.inr (.inl 3), .inl 1]) (fun f5 v6 => mj_gd (v6 = 0 ∨ v6 = 1) (some (w, f5, some (.inl v6)))))) else mj_bi (mj_call yR_fail w f [.inr (.inl 3), .inl 3]) (fun f7 v8 => mj_gd (v8 = 0 ∨ v8 = 1) (some (w, f7, some (.inl v8)))) := by
  show mj_run yR_readStart w f 0 [.inr (.inl 3), .inr (.inr (.inr 0))] [] = _
  refine ms_aload_n (k := 0) (p' := 1) (by decide +kernel) rfl rfl ?_
  refine ms_getr (idx := 22) (ci := 4) (k := 2) (q := 315) (p' := 4) (by decide +kernel) rfl (k_3 hw) (r_3_2 hw) (pn_0 (fr_pn sw)) ?_
  refine ms_geti (idx := 130) (ci := 3) (k := 5) (q := 223) (p' := 7) (by decide +kernel) rfl (pn_k (fr_pn sw) hw) ?_
  refine ms_if_eq (off := 9) (t := 16) (p' := 10) (by decide +kernel) rfl (fun hc => ?_) (fun hc => ?_)
  · refine ms_aload_n (k := 0) (p' := 17) (by decide +kernel) rfl rfl ?_
    refine ms_virt_u (idx := 56) (cy := yR_advance) (n := 0) (a := 3) (as := []) (rest := []) (p' := 20) (by decide +kernel) rfl rfl rfl rfl (k_3 hw) rfl (fun f1 => ?_)
    refine ms_aload_n (k := 0) (p' := 21) (by decide +kernel) rfl rfl ?_
    refine ms_virt_i (idx := 114) (cy := yR_placeHere) (n := 0) (a := 3) (as := []) (rest := []) (p' := 24) (by decide +kernel) rfl rfl rfl rfl (k_3 hw) rfl (fun f2 v3 => ?_)
    refine ms_istore_n (k := 1) (ls' := [.inr (.inl 3), .inl v3]) (p' := 25) (by decide +kernel) rfl (Nat.le_of_ble_eq_true rfl) rfl ?_
    refine ms_iload_n (k := 1) (p' := 26) (by decide +kernel) rfl rfl ?_
    refine ms_iconst (n := (-1)) (v := (-1)) (p' := 27) (by decide +kernel) rfl ?_
    refine ms_icmp_ne (off := 9) (t := 36) (p' := 30) (by decide +kernel) rfl (fun hc => ?_) (fun hc => ?_)
    · refine ms_aload_n (k := 0) (p' := 37) (by decide +kernel) rfl rfl ?_
      refine ms_getr (idx := 22) (ci := 4) (k := 2) (q := 315) (p' := 40) (by decide +kernel) rfl (k_3 hw) (r_3_2 hw) (pn_0 (fr_pn sw)) ?_
      refine ms_iload_n (k := 1) (p' := 41) (by decide +kernel) rfl rfl ?_
      refine ms_puti (idx := 134) (ci := 3) (k := 4) (q := 220) (p' := 44) (by decide +kernel) rfl (pn_k (fr_pn sw) hw) ?_
      refine ms_aload_n (k := 0) (p' := 45) (by decide +kernel) rfl rfl ?_
      refine ms_getr (idx := 22) (ci := 4) (k := 2) (q := 315) (p' := 48) (by decide +kernel) rfl (k_3 hw) (r_3_2 hw) (pn_0 (fr_pn sw)) ?_
      refine ms_iconst (n := 1) (v := 1) (p' := 49) (by decide +kernel) rfl ?_
      refine Eq.trans (ms_putz (idx := 130) (ci := 3) (k := 5) (q := 223) (p' := 52) (by decide +kernel) rfl (pn_k (fr_pn sw) hw) (fun _ => ?_)) (mj_gd_pos (by decide) _)
      refine ms_aload_n (k := 0) (p' := 53) (by decide +kernel) rfl rfl ?_
      refine ms_virt_u (idx := 56) (cy := yR_advance) (n := 0) (a := 3) (as := []) (rest := []) (p' := 56) (by decide +kernel) rfl rfl rfl rfl (k_3 hw) rfl (fun f4 => ?_)
      refine ms_iconst (n := 1) (v := 1) (p' := 57) (by decide +kernel) rfl ?_
      exact (ms_zret (by decide +kernel)).trans (mj_gd_pos (by decide) _)
    · refine ms_aload_n (k := 0) (p' := 31) (by decide +kernel) rfl rfl ?_
      refine ms_iconst (n := 1) (v := 1) (p' := 32) (by decide +kernel) rfl ?_
      refine ms_virt_i (idx := 69) (cy := yR_fail) (n := 1) (a := 3) (as := [.inl 1]) (rest := []) (p' := 35) (by decide +kernel) rfl rfl rfl rfl (k_3 hw) rfl (fun f5 v6 => ?_)
      exact ms_zret (by decide +kernel)
  · refine ms_aload_n (k := 0) (p' := 11) (by decide +kernel) rfl rfl ?_
    refine ms_iconst (n := 3) (v := 3) (p' := 12) (by decide +kernel) rfl ?_
    refine ms_virt_i (idx := 69) (cy := yR_fail) (n := 1) (a := 3) (as := [.inl 3]) (rest := []) (p' := 15) (by decide +kernel) rfl rfl rfl rfl (k_3 hw) rfl (fun f7 v8 => ?_)
    exact ms_zret (by decide +kernel)
theorem c_R_readLine {sw : Bool} {w : mj_W} (hw : wk sw w) (f : mj_F)   : mj_call yR_readLine w f [.inr (.inl 3)] = if (f 3 5) = 5 then mj_bi (mj_call yR_readClock w f [.inr (.inl 3)]) (fun f1 v2 => if v2 = 0 then some (w, f1, some (.inl 0)) else mj_bi (mj_call yR_endLine w f1 [.inr (.inl 3)]) (fun f3 v4 => if v4 = 0 then some (w, f3, some (.inl 0)) else some (w, f3, some (.inl 1)))) else if (f 3 5) = 6 then mj_bi (mj_call yR_readPlace w f [.inr (.inl 3)]) (fun f5 v6 => if v6 = 0 then some (w, f5, some (.inl 0)) else mj_bi (mj_call yR_endLine w f5 [.inr (.inl 3)]) (fun f7 v8 => if v8 = 0 then some (w, f7, some (.inl 0)) else some (w, f7, some (.inl 1)))) else if (f 3 5) = 7 then mj_bi (mj_call yR_readEdge w f [.inr (.inl 3)]) (fun f9 v10 => if v10 = 0 then some (w, f9, some (.inl 0)) else mj_bi (mj_call yR_endLine w f9 [.inr (.inl 3)]) (fun f11 v12 => if v12 = 0 then some (w, f11, some (.inl 0)) else some (w, f11, some (.inl 1)))) else if (f 3 5) = 8 then mj_bi (mj_call yR_readStart w f [.inr (.inl 3)]) (fun f13 v14 => if v14 = 0 then some (w, f13, some (.inl 0)) else mj_bi (mj_call yR_endLine w f13 [.inr (.inl 3)]) (fun f15 v16 => if v16 = 0 then some (w, f15, some (.inl 0)) else some (w, f15, some (.inl 1)))) else mj_bi (mj_call yR_fail w f [.inr (.inl 3), .inl 1]) (fun f17 v18 => mj_gd (v18 = 0 ∨ v18 = 1) (some (w, f17, some (.inl v18)))) := by
  show mj_run yR_readLine w f 0 [.inr (.inl 3)] [] = _
  refine ms_aload_n (k := 0) (p' := 1) (by decide +kernel) rfl rfl ?_
  refine ms_geti (idx := 32) (ci := 4) (k := 5) (q := 319) (p' := 4) (by decide +kernel) rfl (k_3 hw) ?_
  have hd : mj_dec yR_readLine 4 = some (.tableswitch 112 5 8 #[32, 52, 72, 92]) := by decide +kernel
  by_cases hs0 : (f 3 5) = 5
  · rw [if_pos hs0]
    refine ms_tabIn (t := 36) hd (by omega) (by rw [hs0]; decide +kernel) ?_
    refine ms_aload_n (k := 0) (p' := 37) (by decide +kernel) rfl rfl ?_
    refine ms_virt_i (idx := 73) (cy := yR_readClock) (n := 0) (a := 3) (as := []) (rest := []) (p' := 40) (by decide +kernel) rfl rfl rfl rfl (k_3 hw) rfl (fun f1 v2 => ?_)
    refine ms_if_eq (off := 14) (t := 54) (p' := 43) (by decide +kernel) rfl (fun hc => ?_) (fun hc => ?_)
    · refine ms_iconst (n := 0) (v := 0) (p' := 55) (by decide +kernel) rfl ?_
      exact (ms_zret (by decide +kernel)).trans (mj_gd_pos (by decide) _)
    · refine ms_aload_n (k := 0) (p' := 44) (by decide +kernel) rfl rfl ?_
      refine ms_virt_i (idx := 76) (cy := yR_endLine) (n := 0) (a := 3) (as := []) (rest := []) (p' := 47) (by decide +kernel) rfl rfl rfl rfl (k_3 hw) rfl (fun f3 v4 => ?_)
      refine ms_if_eq (off := 7) (t := 54) (p' := 50) (by decide +kernel) rfl (fun hc => ?_) (fun hc => ?_)
      · refine ms_iconst (n := 0) (v := 0) (p' := 55) (by decide +kernel) rfl ?_
        exact (ms_zret (by decide +kernel)).trans (mj_gd_pos (by decide) _)
      · refine ms_iconst (n := 1) (v := 1) (p' := 51) (by decide +kernel) rfl ?_
        refine ms_goto (off := 4) (p' := 55) (by decide +kernel) ?_
        exact (ms_zret (by decide +kernel)).trans (mj_gd_pos (by decide) _)
  · rw [if_neg hs0]
    by_cases hs1 : (f 3 5) = 6
    · rw [if_pos hs1]
      refine ms_tabIn (t := 56) hd (by omega) (by rw [hs1]; decide +kernel) ?_
      refine ms_aload_n (k := 0) (p' := 57) (by decide +kernel) rfl rfl ?_
      refine ms_virt_i (idx := 79) (cy := yR_readPlace) (n := 0) (a := 3) (as := []) (rest := []) (p' := 60) (by decide +kernel) rfl rfl rfl rfl (k_3 hw) rfl (fun f5 v6 => ?_)
      refine ms_if_eq (off := 14) (t := 74) (p' := 63) (by decide +kernel) rfl (fun hc => ?_) (fun hc => ?_)
      · refine ms_iconst (n := 0) (v := 0) (p' := 75) (by decide +kernel) rfl ?_
        exact (ms_zret (by decide +kernel)).trans (mj_gd_pos (by decide) _)
      · refine ms_aload_n (k := 0) (p' := 64) (by decide +kernel) rfl rfl ?_
        refine ms_virt_i (idx := 76) (cy := yR_endLine) (n := 0) (a := 3) (as := []) (rest := []) (p' := 67) (by decide +kernel) rfl rfl rfl rfl (k_3 hw) rfl (fun f7 v8 => ?_)
        refine ms_if_eq (off := 7) (t := 74) (p' := 70) (by decide +kernel) rfl (fun hc => ?_) (fun hc => ?_)
        · refine ms_iconst (n := 0) (v := 0) (p' := 75) (by decide +kernel) rfl ?_
          exact (ms_zret (by decide +kernel)).trans (mj_gd_pos (by decide) _)
        · refine ms_iconst (n := 1) (v := 1) (p' := 71) (by decide +kernel) rfl ?_
          refine ms_goto (off := 4) (p' := 75) (by decide +kernel) ?_
          exact (ms_zret (by decide +kernel)).trans (mj_gd_pos (by decide) _)
    · rw [if_neg hs1]
      by_cases hs2 : (f 3 5) = 7
      · rw [if_pos hs2]
        refine ms_tabIn (t := 76) hd (by omega) (by rw [hs2]; decide +kernel) ?_
        refine ms_aload_n (k := 0) (p' := 77) (by decide +kernel) rfl rfl ?_
        refine ms_virt_i (idx := 82) (cy := yR_readEdge) (n := 0) (a := 3) (as := []) (rest := []) (p' := 80) (by decide +kernel) rfl rfl rfl rfl (k_3 hw) rfl (fun f9 v10 => ?_)
        refine ms_if_eq (off := 14) (t := 94) (p' := 83) (by decide +kernel) rfl (fun hc => ?_) (fun hc => ?_)
        · refine ms_iconst (n := 0) (v := 0) (p' := 95) (by decide +kernel) rfl ?_
          exact (ms_zret (by decide +kernel)).trans (mj_gd_pos (by decide) _)
        · refine ms_aload_n (k := 0) (p' := 84) (by decide +kernel) rfl rfl ?_
          refine ms_virt_i (idx := 76) (cy := yR_endLine) (n := 0) (a := 3) (as := []) (rest := []) (p' := 87) (by decide +kernel) rfl rfl rfl rfl (k_3 hw) rfl (fun f11 v12 => ?_)
          refine ms_if_eq (off := 7) (t := 94) (p' := 90) (by decide +kernel) rfl (fun hc => ?_) (fun hc => ?_)
          · refine ms_iconst (n := 0) (v := 0) (p' := 95) (by decide +kernel) rfl ?_
            exact (ms_zret (by decide +kernel)).trans (mj_gd_pos (by decide) _)
          · refine ms_iconst (n := 1) (v := 1) (p' := 91) (by decide +kernel) rfl ?_
            refine ms_goto (off := 4) (p' := 95) (by decide +kernel) ?_
            exact (ms_zret (by decide +kernel)).trans (mj_gd_pos (by decide) _)
      · rw [if_neg hs2]
        by_cases hs3 : (f 3 5) = 8
        · rw [if_pos hs3]
          refine ms_tabIn (t := 96) hd (by omega) (by rw [hs3]; decide +kernel) ?_
          refine ms_aload_n (k := 0) (p' := 97) (by decide +kernel) rfl rfl ?_
          refine ms_virt_i (idx := 85) (cy := yR_readStart) (n := 0) (a := 3) (as := []) (rest := []) (p' := 100) (by decide +kernel) rfl rfl rfl rfl (k_3 hw) rfl (fun f13 v14 => ?_)
          refine ms_if_eq (off := 14) (t := 114) (p' := 103) (by decide +kernel) rfl (fun hc => ?_) (fun hc => ?_)
          · refine ms_iconst (n := 0) (v := 0) (p' := 115) (by decide +kernel) rfl ?_
            exact (ms_zret (by decide +kernel)).trans (mj_gd_pos (by decide) _)
          · refine ms_aload_n (k := 0) (p' := 104) (by decide +kernel) rfl rfl ?_
            refine ms_virt_i (idx := 76) (cy := yR_endLine) (n := 0) (a := 3) (as := []) (rest := []) (p' := 107) (by decide +kernel) rfl rfl rfl rfl (k_3 hw) rfl (fun f15 v16 => ?_)
            refine ms_if_eq (off := 7) (t := 114) (p' := 110) (by decide +kernel) rfl (fun hc => ?_) (fun hc => ?_)
            · refine ms_iconst (n := 0) (v := 0) (p' := 115) (by decide +kernel) rfl ?_
              exact (ms_zret (by decide +kernel)).trans (mj_gd_pos (by decide) _)
            · refine ms_iconst (n := 1) (v := 1) (p' := 111) (by decide +kernel) rfl ?_
              refine ms_goto (off := 4) (p' := 115) (by decide +kernel) ?_
              exact (ms_zret (by decide +kernel)).trans (mj_gd_pos (by decide) _)
        · rw [if_neg hs3]
          refine ms_tabOut (t := 116) hd (by omega) (by decide +kernel) ?_
          refine ms_aload_n (k := 0) (p' := 117) (by decide +kernel) rfl rfl ?_
          refine ms_iconst (n := 1) (v := 1) (p' := 118) (by decide +kernel) rfl ?_
          refine ms_virt_i (idx := 69) (cy := yR_fail) (n := 1) (a := 3) (as := [.inl 1]) (rest := []) (p' := 121) (by decide +kernel) rfl rfl rfl rfl (k_3 hw) rfl (fun f17 v18 => ?_)
          exact ms_zret (by decide +kernel)
theorem c_R_readText {sw : Bool} {w : mj_W} (hw : wk sw w) (f : mj_F) (x1 : Int)  : mj_call yR_readText w f [.inr (.inl 3), .inl x1] = mj_bu (mj_call yL_clear w f [.inr (.inl (fr sw))]) (fun f1 => mj_bu (mj_call yR_advance w (mj_u (mj_u (mj_u (mj_u f1 3 3 (if 900 < x1 then 900 else x1)) 3 4 0) 3 8 0) 3 9 (-1)) [.inr (.inl 3)]) (fun f2 => mj_run yR_readText w f2 39 [.inr (.inl 3), .inl x1, .inl 0] [])) := by
  show mj_run yR_readText w f 0 [.inr (.inl 3), .inl x1, .inr (.inr (.inr 0))] [] = _
  refine ms_aload_n (k := 0) (p' := 1) (by decide +kernel) rfl rfl ?_
  refine ms_getr (idx := 22) (ci := 4) (k := 2) (q := 315) (p' := 4) (by decide +kernel) rfl (k_3 hw) (r_3_2 hw) (pn_0 (fr_pn sw)) ?_
  refine ms_virt_u (idx := 47) (cy := yL_clear) (n := 0) (a := (fr sw)) (as := []) (rest := []) (p' := 7) (by decide +kernel) rfl rfl rfl rfl (pn_k (fr_pn sw) hw) rfl (fun f1 => ?_)
  refine ms_aload_n (k := 0) (p' := 8) (by decide +kernel) rfl rfl ?_
  refine ms_iload_n (k := 1) (p' := 9) (by decide +kernel) rfl rfl ?_
  refine ms_sipush (n := 900) (v := 900) (p' := 12) (by decide +kernel) rfl ?_
  refine ms_math2 (idx := 50) (k := 13) (x := 0) (q := 573) (v := (if 900 < x1 then 900 else x1)) (p' := 15) (by decide +kernel) (Or.inr ⟨rfl, rfl⟩) rfl rfl ?_
  refine ms_puti (idx := 26) (ci := 4) (k := 3) (q := 317) (p' := 18) (by decide +kernel) rfl (k_3 hw) ?_
  refine ms_aload_n (k := 0) (p' := 19) (by decide +kernel) rfl rfl ?_
  refine ms_iconst (n := 0) (v := 0) (p' := 20) (by decide +kernel) rfl ?_
  refine ms_puti (idx := 29) (ci := 4) (k := 4) (q := 318) (p' := 23) (by decide +kernel) rfl (k_3 hw) ?_
  refine ms_aload_n (k := 0) (p' := 24) (by decide +kernel) rfl rfl ?_
  refine ms_iconst (n := 0) (v := 0) (p' := 25) (by decide +kernel) rfl ?_
  refine ms_puti (idx := 41) (ci := 4) (k := 8) (q := 322) (p' := 28) (by decide +kernel) rfl (k_3 hw) ?_
  refine ms_aload_n (k := 0) (p' := 29) (by decide +kernel) rfl rfl ?_
  refine ms_iconst (n := (-1)) (v := (-1)) (p' := 30) (by decide +kernel) rfl ?_
  refine ms_puti (idx := 44) (ci := 4) (k := 9) (q := 324) (p' := 33) (by decide +kernel) rfl (k_3 hw) ?_
  refine ms_aload_n (k := 0) (p' := 34) (by decide +kernel) rfl rfl ?_
  refine ms_virt_u (idx := 56) (cy := yR_advance) (n := 0) (a := 3) (as := []) (rest := []) (p' := 37) (by decide +kernel) rfl rfl rfl rfl (k_3 hw) rfl (fun f2 => ?_)
  refine ms_iconst (n := 0) (v := 0) (p' := 38) (by decide +kernel) rfl ?_
  refine ms_istore_n (k := 2) (ls' := [.inr (.inl 3), .inl x1, .inl 0]) (p' := 39) (by decide +kernel) rfl (Nat.le_of_ble_eq_true rfl) rfl ?_
  rfl
theorem l_R_readText_39 {sw : Bool} {w : mj_W} (hw : wk sw w) (f : mj_F) (x1 : Int) (x2 : Int)  : mj_run yR_readText w f 39 [.inr (.inl 3), .inl x1, .inl x2] [] = if (f 3 3) ≤ x2 then if 0 < (f (fr sw) 2) then some (w, f, some (.inl 1)) else mj_bi (mj_call yR_fail w f [.inr (.inl 3), .inl 4]) (fun f3 v4 => if v4 = 0 then some (w, f3, some (.inl 0)) else some (w, f3, some (.inl 1))) else if (f 3 5) = 0 then if 0 < (f (fr sw) 2) then some (w, f, some (.inl 1)) else mj_bi (mj_call yR_fail w f [.inr (.inl 3), .inl 4]) (fun f5 v6 => if v6 = 0 then some (w, f5, some (.inl 0)) else some (w, f5, some (.inl 1))) else mj_bi (mj_call yR_readLine w f [.inr (.inl 3)]) (fun f7 v8 => if ¬ v8 = 0 then mj_run yR_readText w (mj_u f7 (fr sw) 0 (mj_w ((f7 (fr sw) 0) + 1))) 39 [.inr (.inl 3), .inl x1, .inl (mj_w (x2 + 1))] [] else some (w, f7, some (.inl 0))) := by
  refine ms_iload_n (k := 2) (p' := 40) (by decide +kernel) rfl rfl ?_
  refine ms_aload_n (k := 0) (p' := 41) (by decide +kernel) rfl rfl ?_
  refine ms_geti (idx := 26) (ci := 4) (k := 3) (q := 317) (p' := 44) (by decide +kernel) rfl (k_3 hw) ?_
  refine ms_icmp_ge (off := 38) (t := 82) (p' := 47) (by decide +kernel) rfl (fun hc => ?_) (fun hc => ?_)
  · refine ms_aload_n (k := 0) (p' := 83) (by decide +kernel) rfl rfl ?_
    refine ms_getr (idx := 22) (ci := 4) (k := 2) (q := 315) (p' := 86) (by decide +kernel) rfl (k_3 hw) (r_3_2 hw) (pn_0 (fr_pn sw)) ?_
    refine ms_geti (idx := 66) (ci := 3) (k := 2) (q := 209) (p' := 89) (by decide +kernel) rfl (pn_k (fr_pn sw) hw) ?_
    refine ms_if_gt (off := 11) (t := 100) (p' := 92) (by decide +kernel) rfl (fun hc => ?_) (fun hc => ?_)
    · refine ms_iconst (n := 1) (v := 1) (p' := 101) (by decide +kernel) rfl ?_
      refine ms_goto (off := 4) (p' := 105) (by decide +kernel) ?_
      exact (ms_zret (by decide +kernel)).trans (mj_gd_pos (by decide) _)
    · refine ms_aload_n (k := 0) (p' := 93) (by decide +kernel) rfl rfl ?_
      refine ms_iconst (n := 4) (v := 4) (p' := 94) (by decide +kernel) rfl ?_
      refine ms_virt_i (idx := 69) (cy := yR_fail) (n := 1) (a := 3) (as := [.inl 4]) (rest := []) (p' := 97) (by decide +kernel) rfl rfl rfl rfl (k_3 hw) rfl (fun f3 v4 => ?_)
      refine ms_if_eq (off := 7) (t := 104) (p' := 100) (by decide +kernel) rfl (fun hc => ?_) (fun hc => ?_)
      · refine ms_iconst (n := 0) (v := 0) (p' := 105) (by decide +kernel) rfl ?_
        exact (ms_zret (by decide +kernel)).trans (mj_gd_pos (by decide) _)
      · refine ms_iconst (n := 1) (v := 1) (p' := 101) (by decide +kernel) rfl ?_
        refine ms_goto (off := 4) (p' := 105) (by decide +kernel) ?_
        exact (ms_zret (by decide +kernel)).trans (mj_gd_pos (by decide) _)
  · refine ms_aload_n (k := 0) (p' := 48) (by decide +kernel) rfl rfl ?_
    refine ms_geti (idx := 32) (ci := 4) (k := 5) (q := 319) (p' := 51) (by decide +kernel) rfl (k_3 hw) ?_
    refine ms_if_eq (off := 31) (t := 82) (p' := 54) (by decide +kernel) rfl (fun hc => ?_) (fun hc => ?_)
    · refine ms_aload_n (k := 0) (p' := 83) (by decide +kernel) rfl rfl ?_
      refine ms_getr (idx := 22) (ci := 4) (k := 2) (q := 315) (p' := 86) (by decide +kernel) rfl (k_3 hw) (r_3_2 hw) (pn_0 (fr_pn sw)) ?_
      refine ms_geti (idx := 66) (ci := 3) (k := 2) (q := 209) (p' := 89) (by decide +kernel) rfl (pn_k (fr_pn sw) hw) ?_
      refine ms_if_gt (off := 11) (t := 100) (p' := 92) (by decide +kernel) rfl (fun hc => ?_) (fun hc => ?_)
      · refine ms_iconst (n := 1) (v := 1) (p' := 101) (by decide +kernel) rfl ?_
        refine ms_goto (off := 4) (p' := 105) (by decide +kernel) ?_
        exact (ms_zret (by decide +kernel)).trans (mj_gd_pos (by decide) _)
      · refine ms_aload_n (k := 0) (p' := 93) (by decide +kernel) rfl rfl ?_
        refine ms_iconst (n := 4) (v := 4) (p' := 94) (by decide +kernel) rfl ?_
        refine ms_virt_i (idx := 69) (cy := yR_fail) (n := 1) (a := 3) (as := [.inl 4]) (rest := []) (p' := 97) (by decide +kernel) rfl rfl rfl rfl (k_3 hw) rfl (fun f5 v6 => ?_)
        refine ms_if_eq (off := 7) (t := 104) (p' := 100) (by decide +kernel) rfl (fun hc => ?_) (fun hc => ?_)
        · refine ms_iconst (n := 0) (v := 0) (p' := 105) (by decide +kernel) rfl ?_
          exact (ms_zret (by decide +kernel)).trans (mj_gd_pos (by decide) _)
        · refine ms_iconst (n := 1) (v := 1) (p' := 101) (by decide +kernel) rfl ?_
          refine ms_goto (off := 4) (p' := 105) (by decide +kernel) ?_
          exact (ms_zret (by decide +kernel)).trans (mj_gd_pos (by decide) _)
    · refine ms_aload_n (k := 0) (p' := 55) (by decide +kernel) rfl rfl ?_
      refine ms_virt_i (idx := 59) (cy := yR_readLine) (n := 0) (a := 3) (as := []) (rest := []) (p' := 58) (by decide +kernel) rfl rfl rfl rfl (k_3 hw) rfl (fun f7 v8 => ?_)
      refine ms_if_ne (off := 5) (t := 63) (p' := 61) (by decide +kernel) rfl (fun hc => ?_) (fun hc => ?_)
      · refine ms_aload_n (k := 0) (p' := 64) (by decide +kernel) rfl rfl ?_
        refine ms_getr (idx := 22) (ci := 4) (k := 2) (q := 315) (p' := 67) (by decide +kernel) rfl (k_3 hw) (r_3_2 hw) (pn_0 (fr_pn sw)) ?_
        refine ms_dup_a (p' := 68) (by decide +kernel) rfl ?_
        refine ms_geti (idx := 63) (ci := 3) (k := 0) (q := 201) (p' := 71) (by decide +kernel) rfl (pn_k (fr_pn sw) hw) ?_
        refine ms_iconst (n := 1) (v := 1) (p' := 72) (by decide +kernel) rfl ?_
        refine ms_iadd (p' := 73) (by decide +kernel) rfl ?_
        refine ms_puti (idx := 63) (ci := 3) (k := 0) (q := 201) (p' := 76) (by decide +kernel) rfl (pn_k (fr_pn sw) hw) ?_
        refine ms_iinc (k := 2) (n := 1) (ls' := [.inr (.inl 3), .inl x1, .inl (mj_w (x2 + 1))]) (p' := 79) (by decide +kernel) rfl rfl rfl ?_
        refine ms_goto (off := (-40)) (p' := 39) (by decide +kernel) ?_
        rfl
      · refine ms_iconst (n := 0) (v := 0) (p' := 62) (by decide +kernel) rfl ?_
        exact (ms_zret (by decide +kernel)).trans (mj_gd_pos (by decide) _)
