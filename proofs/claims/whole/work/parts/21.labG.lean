/-! What each method does from its entry (c_), and from the heads of its loops (l_). Written by wip/whole/gen/mkall.py out of the bytes. -/
theorem c_G_append {sw : Bool} {w : mj_W} (hw : wk sw w) (f : mj_F) (x1 : Int) (x2 : Int) (x3 : Int) (x4 : Int)  : mj_call yG_append w f [.inr (.inl 37), .inl x1, .inl x2, .inl x3, .inl x4] = if (f 37 9) < 60 then mj_gd (0 ≤ (f 37 9) ∧ (f 37 9) < ((60 : Nat) : Int)) (mj_bu (mj_call yZ_become w f [.inr (.inl (48 + 2 * (f 37 9).toNat)), .inr (.inl 46)]) (fun f2 => mj_gd (0 ≤ (f2 37 9) ∧ (f2 37 9) < ((60 : Nat) : Int)) (mj_gd (0 ≤ (mj_u f2 39 (f2 37 9).toNat x1 37 9) ∧ (mj_u f2 39 (f2 37 9).toNat x1 37 9) < ((60 : Nat) : Int)) (mj_gd (0 ≤ (mj_u (mj_u f2 39 (f2 37 9).toNat x1) 40 (mj_u f2 39 (f2 37 9).toNat x1 37 9).toNat x2 37 9) ∧ (mj_u (mj_u f2 39 (f2 37 9).toNat x1) 40 (mj_u f2 39 (f2 37 9).toNat x1 37 9).toNat x2 37 9) < ((60 : Nat) : Int)) (mj_gd (0 ≤ (mj_u (mj_u (mj_u f2 39 (f2 37 9).toNat x1) 40 (mj_u f2 39 (f2 37 9).toNat x1 37 9).toNat x2) 41 (mj_u (mj_u f2 39 (f2 37 9).toNat x1) 40 (mj_u f2 39 (f2 37 9).toNat x1 37 9).toNat x2 37 9).toNat x3 37 9) ∧ (mj_u (mj_u (mj_u f2 39 (f2 37 9).toNat x1) 40 (mj_u f2 39 (f2 37 9).toNat x1 37 9).toNat x2) 41 (mj_u (mj_u f2 39 (f2 37 9).toNat x1) 40 (mj_u f2 39 (f2 37 9).toNat x1 37 9).toNat x2 37 9).toNat x3 37 9) < ((60 : Nat) : Int)) (mj_gd (0 ≤ (mj_u (mj_u (mj_u (mj_u f2 39 (f2 37 9).toNat x1) 40 (mj_u f2 39 (f2 37 9).toNat x1 37 9).toNat x2) 41 (mj_u (mj_u f2 39 (f2 37 9).toNat x1) 40 (mj_u f2 39 (f2 37 9).toNat x1 37 9).toNat x2 37 9).toNat x3) 42 (mj_u (mj_u (mj_u f2 39 (f2 37 9).toNat x1) 40 (mj_u f2 39 (f2 37 9).toNat x1 37 9).toNat x2) 41 (mj_u (mj_u f2 39 (f2 37 9).toNat x1) 40 (mj_u f2 39 (f2 37 9).toNat x1 37 9).toNat x2 37 9).toNat x3 37 9).toNat x4 37 9) ∧ (mj_u (mj_u (mj_u (mj_u f2 39 (f2 37 9).toNat x1) 40 (mj_u f2 39 (f2 37 9).toNat x1 37 9).toNat x2) 41 (mj_u (mj_u f2 39 (f2 37 9).toNat x1) 40 (mj_u f2 39 (f2 37 9).toNat x1 37 9).toNat x2 37 9).toNat x3) 42 (mj_u (mj_u (mj_u f2 39 (f2 37 9).toNat x1) 40 (mj_u f2 39 (f2 37 9).toNat x1 37 9).toNat x2) 41 (mj_u (mj_u f2 39 (f2 37 9).toNat x1) 40 (mj_u f2 39 (f2 37 9).toNat x1 37 9).toNat x2 37 9).toNat x3 37 9).toNat x4 37 9) < ((60 : Nat) : Int)) (mj_gd (0 ≤ x1 ∧ x1 < ((8 : Nat) : Int)) (if 0 ≤ ((mj_u (mj_u (mj_u (mj_u (mj_u f2 39 (f2 37 9).toNat x1) 40 (mj_u f2 39 (f2 37 9).toNat x1 37 9).toNat x2) 41 (mj_u (mj_u f2 39 (f2 37 9).toNat x1) 40 (mj_u f2 39 (f2 37 9).toNat x1 37 9).toNat x2 37 9).toNat x3) 42 (mj_u (mj_u (mj_u f2 39 (f2 37 9).toNat x1) 40 (mj_u f2 39 (f2 37 9).toNat x1 37 9).toNat x2) 41 (mj_u (mj_u f2 39 (f2 37 9).toNat x1) 40 (mj_u f2 39 (f2 37 9).toNat x1 37 9).toNat x2 37 9).toNat x3 37 9).toNat x4) 43 (mj_u (mj_u (mj_u (mj_u f2 39 (f2 37 9).toNat x1) 40 (mj_u f2 39 (f2 37 9).toNat x1 37 9).toNat x2) 41 (mj_u (mj_u f2 39 (f2 37 9).toNat x1) 40 (mj_u f2 39 (f2 37 9).toNat x1 37 9).toNat x2 37 9).toNat x3) 42 (mj_u (mj_u (mj_u f2 39 (f2 37 9).toNat x1) 40 (mj_u f2 39 (f2 37 9).toNat x1 37 9).toNat x2) 41 (mj_u (mj_u f2 39 (f2 37 9).toNat x1) 40 (mj_u f2 39 (f2 37 9).toNat x1 37 9).toNat x2 37 9).toNat x3 37 9).toNat x4 37 9).toNat (-1)) 44 x1.toNat) then some (w, (mj_u (mj_u (mj_u (mj_u (mj_u (mj_u f2 39 (f2 37 9).toNat x1) 40 (mj_u f2 39 (f2 37 9).toNat x1 37 9).toNat x2) 41 (mj_u (mj_u f2 39 (f2 37 9).toNat x1) 40 (mj_u f2 39 (f2 37 9).toNat x1 37 9).toNat x2 37 9).toNat x3) 42 (mj_u (mj_u (mj_u f2 39 (f2 37 9).toNat x1) 40 (mj_u f2 39 (f2 37 9).toNat x1 37 9).toNat x2) 41 (mj_u (mj_u f2 39 (f2 37 9).toNat x1) 40 (mj_u f2 39 (f2 37 9).toNat x1 37 9).toNat x2 37 9).toNat x3 37 9).toNat x4) 43 (mj_u (mj_u (mj_u (mj_u f2 39 (f2 37 9).toNat x1) 40 (mj_u f2 39 (f2 37 9).toNat x1 37 9).toNat x2) 41 (mj_u (mj_u f2 39 (f2 37 9).toNat x1) 40 (mj_u f2 39 (f2 37 9).toNat x1 37 9).toNat x2 37 9).toNat x3) 42 (mj_u (mj_u (mj_u f2 39 (f2 37 9).toNat x1) 40 (mj_u f2 39 (f2 37 9).toNat x1 37 9).toNat x2) 41 (mj_u (mj_u f2 39 (f2 37 9).toNat x1) 40 (mj_u f2 39 (f2 37 9).toNat x1 37 9).toNat x2 37 9).toNat x3 37 9).toNat x4 37 9).toNat (-1)) 37 9 (mj_w ((mj_u (mj_u (mj_u (mj_u (mj_u f2 39 (f2 37 9).toNat x1) 40 (mj_u f2 39 (f2 37 9).toNat x1 37 9).toNat x2) 41 (mj_u (mj_u f2 39 (f2 37 9).toNat x1) 40 (mj_u f2 39 (f2 37 9).toNat x1 37 9).toNat x2 37 9).toNat x3) 42 (mj_u (mj_u (mj_u f2 39 (f2 37 9).toNat x1) 40 (mj_u f2 39 (f2 37 9).toNat x1 37 9).toNat x2) 41 (mj_u (mj_u f2 39 (f2 37 9).toNat x1) 40 (mj_u f2 39 (f2 37 9).toNat x1 37 9).toNat x2 37 9).toNat x3 37 9).toNat x4) 43 (mj_u (mj_u (mj_u (mj_u f2 39 (f2 37 9).toNat x1) 40 (mj_u f2 39 (f2 37 9).toNat x1 37 9).toNat x2) 41 (mj_u (mj_u f2 39 (f2 37 9).toNat x1) 40 (mj_u f2 39 (f2 37 9).toNat x1 37 9).toNat x2 37 9).toNat x3) 42 (mj_u (mj_u (mj_u f2 39 (f2 37 9).toNat x1) 40 (mj_u f2 39 (f2 37 9).toNat x1 37 9).toNat x2) 41 (mj_u (mj_u f2 39 (f2 37 9).toNat x1) 40 (mj_u f2 39 (f2 37 9).toNat x1 37 9).toNat x2 37 9).toNat x3 37 9).toNat x4 37 9).toNat (-1) 37 9) + 1))), none) else mj_gd (0 ≤ x1 ∧ x1 < ((8 : Nat) : Int)) (some (w, (mj_u (mj_u (mj_u (mj_u (mj_u (mj_u (mj_u f2 39 (f2 37 9).toNat x1) 40 (mj_u f2 39 (f2 37 9).toNat x1 37 9).toNat x2) 41 (mj_u (mj_u f2 39 (f2 37 9).toNat x1) 40 (mj_u f2 39 (f2 37 9).toNat x1 37 9).toNat x2 37 9).toNat x3) 42 (mj_u (mj_u (mj_u f2 39 (f2 37 9).toNat x1) 40 (mj_u f2 39 (f2 37 9).toNat x1 37 9).toNat x2) 41 (mj_u (mj_u f2 39 (f2 37 9).toNat x1) 40 (mj_u f2 39 (f2 37 9).toNat x1 37 9).toNat x2 37 9).toNat x3 37 9).toNat x4) 43 (mj_u (mj_u (mj_u (mj_u f2 39 (f2 37 9).toNat x1) 40 (mj_u f2 39 (f2 37 9).toNat x1 37 9).toNat x2) 41 (mj_u (mj_u f2 39 (f2 37 9).toNat x1) 40 (mj_u f2 39 (f2 37 9).toNat x1 37 9).toNat x2 37 9).toNat x3) 42 (mj_u (mj_u (mj_u f2 39 (f2 37 9).toNat x1) 40 (mj_u f2 39 (f2 37 9).toNat x1 37 9).toNat x2) 41 (mj_u (mj_u f2 39 (f2 37 9).toNat x1) 40 (mj_u f2 39 (f2 37 9).toNat x1 37 9).toNat x2 37 9).toNat x3 37 9).toNat x4 37 9).toNat (-1)) 44 x1.toNat (mj_u (mj_u (mj_u (mj_u (mj_u f2 39 (f2 37 9).toNat x1) 40 (mj_u f2 39 (f2 37 9).toNat x1 37 9).toNat x2) 41 (mj_u (mj_u f2 39 (f2 37 9).toNat x1) 40 (mj_u f2 39 (f2 37 9).toNat x1 37 9).toNat x2 37 9).toNat x3) 42 (mj_u (mj_u (mj_u f2 39 (f2 37 9).toNat x1) 40 (mj_u f2 39 (f2 37 9).toNat x1 37 9).toNat x2) 41 (mj_u (mj_u f2 39 (f2 37 9).toNat x1) 40 (mj_u f2 39 (f2 37 9).toNat x1 37 9).toNat x2 37 9).toNat x3 37 9).toNat x4) 43 (mj_u (mj_u (mj_u (mj_u f2 39 (f2 37 9).toNat x1) 40 (mj_u f2 39 (f2 37 9).toNat x1 37 9).toNat x2) 41 (mj_u (mj_u f2 39 (f2 37 9).toNat x1) 40 (mj_u f2 39 (f2 37 9).toNat x1 37 9).toNat x2 37 9).toNat x3) 42 (mj_u (mj_u (mj_u f2 39 (f2 37 9).toNat x1) 40 (mj_u f2 39 (f2 37 9).toNat x1 37 9).toNat x2) 41 (mj_u (mj_u f2 39 (f2 37 9).toNat x1) 40 (mj_u f2 39 (f2 37 9).toNat x1 37 9).toNat x2 37 9).toNat x3 37 9).toNat x4 37 9).toNat (-1) 37 9)) 37 9 (mj_w ((mj_u (mj_u (mj_u (mj_u (mj_u (mj_u f2 39 (f2 37 9).toNat x1) 40 (mj_u f2 39 (f2 37 9).toNat x1 37 9).toNat x2) 41 (mj_u (mj_u f2 39 (f2 37 9).toNat x1) 40 (mj_u f2 39 (f2 37 9).toNat x1 37 9).toNat x2 37 9).toNat x3) 42 (mj_u (mj_u (mj_u f2 39 (f2 37 9).toNat x1) 40 (mj_u f2 39 (f2 37 9).toNat x1 37 9).toNat x2) 41 (mj_u (mj_u f2 39 (f2 37 9).toNat x1) 40 (mj_u f2 39 (f2 37 9).toNat x1 37 9).toNat x2 37 9).toNat x3 37 9).toNat x4) 43 (mj_u (mj_u (mj_u (mj_u f2 39 (f2 37 9).toNat x1) 40 (mj_u f2 39 (f2 37 9).toNat x1 37 9).toNat x2) 41 (mj_u (mj_u f2 39 (f2 37 9).toNat x1) 40 (mj_u f2 39 (f2 37 9).toNat x1 37 9).toNat x2 37 9).toNat x3) 42 (mj_u (mj_u (mj_u f2 39 (f2 37 9).toNat x1) 40 (mj_u f2 39 (f2 37 9).toNat x1 37 9).toNat x2) 41 (mj_u (mj_u f2 39 (f2 37 9).toNat x1) 40 (mj_u f2 39 (f2 37 9).toNat x1 37 9).toNat x2 37 9).toNat x3 37 9).toNat x4 37 9).toNat (-1)) 44 x1.toNat (mj_u (mj_u (mj_u (mj_u (mj_u f2 39 (f2 37 9).toNat x1) 40 (mj_u f2 39 (f2 37 9).toNat x1 37 9).toNat x2) 41 (mj_u (mj_u f2 39 (f2 37 9).toNat x1) 40 (mj_u f2 39 (f2 37 9).toNat x1 37 9).toNat x2 37 9).toNat x3) 42 (mj_u (mj_u (mj_u f2 39 (f2 37 9).toNat x1) 40 (mj_u f2 39 (f2 37 9).toNat x1 37 9).toNat x2) 41 (mj_u (mj_u f2 39 (f2 37 9).toNat x1) 40 (mj_u f2 39 (f2 37 9).toNat x1 37 9).toNat x2 37 9).toNat x3 37 9).toNat x4) 43 (mj_u (mj_u (mj_u (mj_u f2 39 (f2 37 9).toNat x1) 40 (mj_u f2 39 (f2 37 9).toNat x1 37 9).toNat x2) 41 (mj_u (mj_u f2 39 (f2 37 9).toNat x1) 40 (mj_u f2 39 (f2 37 9).toNat x1 37 9).toNat x2 37 9).toNat x3) 42 (mj_u (mj_u (mj_u f2 39 (f2 37 9).toNat x1) 40 (mj_u f2 39 (f2 37 9).toNat x1 37 9).toNat x2) 41 (mj_u (mj_u f2 39 (f2 37 9).toNat x1) 40 (mj_u f2 39 (f2 37 9).toNat x1 37 9).toNat x2 37 9).toNat x3 37 9).toNat x4 37 9).toNat (-1) 37 9) 37 9) + 1))), none)))))))))) else some (w, f, none) := by
  show mj_run yG_append w f 0 [.inr (.inl 37), .inl x1, .inl x2, .inl x3, .inl x4] [] = _
  refine ms_aload_n (k := 0) (p' := 1) (by decide +kernel) rfl rfl ?_
  refine ms_geti (idx := 44) (ci := 0) (k := 9) (q := 398) (p' := 4) (by decide +kernel) rfl (k_37 hw) ?_
  refine ms_bipush (n := 60) (v := 60) (p' := 6) (by decide +kernel) rfl ?_
  refine ms_icmp_lt (off := 4) (t := 10) (p' := 9) (by decide +kernel) rfl (fun hc => ?_) (fun hc => ?_)
  · refine ms_aload_n (k := 0) (p' := 11) (by decide +kernel) rfl rfl ?_
    refine ms_getr (idx := 11) (ci := 0) (k := 0) (q := 382) (p' := 14) (by decide +kernel) rfl (k_37 hw) (r_37_0 hw) (by decide) ?_
    refine ms_aload_n (k := 0) (p' := 15) (by decide +kernel) rfl rfl ?_
    refine ms_geti (idx := 44) (ci := 0) (k := 9) (q := 398) (p' := 18) (by decide +kernel) rfl (k_37 hw) ?_
    refine ms_aald (p' := 19) (by decide +kernel) rfl (k_38 hw) (rz38 hw) (fun hj1 => ?_)
    refine ms_aload_n (k := 0) (p' := 20) (by decide +kernel) rfl rfl ?_
    refine ms_getr (idx := 40) (ci := 0) (k := 8) (q := 397) (p' := 23) (by decide +kernel) rfl (k_37 hw) (r_37_8 hw) (by decide) ?_
    refine ms_virt_u (idx := 91) (cy := yZ_become) (n := 1) (a := (48 + 2 * (f 37 9).toNat)) (as := [.inr (.inl 46)]) (rest := []) (p' := 26) (by decide +kernel) rfl rfl rfl rfl (zn_k (zz38 hj1) hw) rfl (fun f2 => ?_)
    refine ms_aload_n (k := 0) (p' := 27) (by decide +kernel) rfl rfl ?_
    refine ms_getr (idx := 17) (ci := 0) (k := 1) (q := 384) (p' := 30) (by decide +kernel) rfl (k_37 hw) (r_37_1 hw) (by decide) ?_
    refine ms_aload_n (k := 0) (p' := 31) (by decide +kernel) rfl rfl ?_
    refine ms_geti (idx := 44) (ci := 0) (k := 9) (q := 398) (p' := 34) (by decide +kernel) rfl (k_37 hw) ?_
    refine ms_iload_n (k := 1) (p' := 35) (by decide +kernel) rfl rfl ?_
    refine ms_iast (p' := 36) (by decide +kernel) rfl (k_39 hw) (fun hj3 => ?_)
    refine ms_aload_n (k := 0) (p' := 37) (by decide +kernel) rfl rfl ?_
    refine ms_getr (idx := 21) (ci := 0) (k := 2) (q := 386) (p' := 40) (by decide +kernel) rfl (k_37 hw) (r_37_2 hw) (by decide) ?_
    refine ms_aload_n (k := 0) (p' := 41) (by decide +kernel) rfl rfl ?_
    refine ms_geti (idx := 44) (ci := 0) (k := 9) (q := 398) (p' := 44) (by decide +kernel) rfl (k_37 hw) ?_
    refine ms_iload_n (k := 2) (p' := 45) (by decide +kernel) rfl rfl ?_
    refine ms_iast (p' := 46) (by decide +kernel) rfl (k_40 hw) (fun hj4 => ?_)
    refine ms_aload_n (k := 0) (p' := 47) (by decide +kernel) rfl rfl ?_
    refine ms_getr (idx := 24) (ci := 0) (k := 3) (q := 388) (p' := 50) (by decide +kernel) rfl (k_37 hw) (r_37_3 hw) (by decide) ?_
    refine ms_aload_n (k := 0) (p' := 51) (by decide +kernel) rfl rfl ?_
    refine ms_geti (idx := 44) (ci := 0) (k := 9) (q := 398) (p' := 54) (by decide +kernel) rfl (k_37 hw) ?_
    refine ms_iload_n (k := 3) (p' := 55) (by decide +kernel) rfl rfl ?_
    refine ms_iast (p' := 56) (by decide +kernel) rfl (k_41 hw) (fun hj5 => ?_)
    refine ms_aload_n (k := 0) (p' := 57) (by decide +kernel) rfl rfl ?_
    refine ms_getr (idx := 27) (ci := 0) (k := 4) (q := 390) (p' := 60) (by decide +kernel) rfl (k_37 hw) (r_37_4 hw) (by decide) ?_
    refine ms_aload_n (k := 0) (p' := 61) (by decide +kernel) rfl rfl ?_
    refine ms_geti (idx := 44) (ci := 0) (k := 9) (q := 398) (p' := 64) (by decide +kernel) rfl (k_37 hw) ?_
    refine ms_iload (k := 4) (p' := 66) (by decide +kernel) rfl rfl ?_
    refine ms_iast (p' := 67) (by decide +kernel) rfl (k_42 hw) (fun hj6 => ?_)
    refine ms_aload_n (k := 0) (p' := 68) (by decide +kernel) rfl rfl ?_
    refine ms_getr (idx := 30) (ci := 0) (k := 5) (q := 392) (p' := 71) (by decide +kernel) rfl (k_37 hw) (r_37_5 hw) (by decide) ?_
    refine ms_aload_n (k := 0) (p' := 72) (by decide +kernel) rfl rfl ?_
    refine ms_geti (idx := 44) (ci := 0) (k := 9) (q := 398) (p' := 75) (by decide +kernel) rfl (k_37 hw) ?_
    refine ms_iconst (n := (-1)) (v := (-1)) (p' := 76) (by decide +kernel) rfl ?_
    refine ms_iast (p' := 77) (by decide +kernel) rfl (k_43 hw) (fun hj7 => ?_)
    refine ms_aload_n (k := 0) (p' := 78) (by decide +kernel) rfl rfl ?_
    refine ms_getr (idx := 33) (ci := 0) (k := 6) (q := 393) (p' := 81) (by decide +kernel) rfl (k_37 hw) (r_37_6 hw) (by decide) ?_
    refine ms_iload_n (k := 1) (p' := 82) (by decide +kernel) rfl rfl ?_
    refine ms_iald (p' := 83) (by decide +kernel) rfl (k_44 hw) (fun hj8 => ?_)
    refine ms_if_ge (off := 13) (t := 96) (p' := 86) (by decide +kernel) rfl (fun hc => ?_) (fun hc => ?_)
    · refine ms_aload_n (k := 0) (p' := 97) (by decide +kernel) rfl rfl ?_
      refine ms_dup_a (p' := 98) (by decide +kernel) rfl ?_
      refine ms_geti (idx := 44) (ci := 0) (k := 9) (q := 398) (p' := 101) (by decide +kernel) rfl (k_37 hw) ?_
      refine ms_iconst (n := 1) (v := 1) (p' := 102) (by decide +kernel) rfl ?_
      refine ms_iadd (p' := 103) (by decide +kernel) rfl ?_
      refine ms_puti (idx := 44) (ci := 0) (k := 9) (q := 398) (p' := 106) (by decide +kernel) rfl (k_37 hw) ?_
      exact ms_vret (by decide +kernel)
    · refine ms_aload_n (k := 0) (p' := 87) (by decide +kernel) rfl rfl ?_
      refine ms_getr (idx := 33) (ci := 0) (k := 6) (q := 393) (p' := 90) (by decide +kernel) rfl (k_37 hw) (r_37_6 hw) (by decide) ?_
      refine ms_iload_n (k := 1) (p' := 91) (by decide +kernel) rfl rfl ?_
      refine ms_aload_n (k := 0) (p' := 92) (by decide +kernel) rfl rfl ?_
      refine ms_geti (idx := 44) (ci := 0) (k := 9) (q := 398) (p' := 95) (by decide +kernel) rfl (k_37 hw) ?_
      refine ms_iast (p' := 96) (by decide +kernel) rfl (k_44 hw) (fun hj9 => ?_)
      refine ms_aload_n (k := 0) (p' := 97) (by decide +kernel) rfl rfl ?_
      refine ms_dup_a (p' := 98) (by decide +kernel) rfl ?_
      refine ms_geti (idx := 44) (ci := 0) (k := 9) (q := 398) (p' := 101) (by decide +kernel) rfl (k_37 hw) ?_
      refine ms_iconst (n := 1) (v := 1) (p' := 102) (by decide +kernel) rfl ?_
      refine ms_iadd (p' := 103) (by decide +kernel) rfl ?_
      refine ms_puti (idx := 44) (ci := 0) (k := 9) (q := 398) (p' := 106) (by decide +kernel) rfl (k_37 hw) ?_
      exact ms_vret (by decide +kernel)
  · exact ms_vret (by decide +kernel)
theorem c_G_isCovered {sw : Bool} {w : mj_W} (hw : wk sw w) (f : mj_F) (x1 : Int)  : mj_call yG_isCovered w f [.inr (.inl 37), .inl x1] = mj_run yG_isCovered w f 2 [.inr (.inl 37), .inl x1, .inl 0] [] := by
  show mj_run yG_isCovered w f 0 [.inr (.inl 37), .inl x1, .inr (.inr (.inr 0))] [] = _
  refine ms_iconst (n := 0) (v := 0) (p' := 1) (by decide +kernel) rfl ?_
  refine ms_istore_n (k := 2) (ls' := [.inr (.inl 37), .inl x1, .inl 0]) (p' := 2) (by decide +kernel) rfl (Nat.le_of_ble_eq_true rfl) rfl ?_
  rfl
theorem l_G_isCovered_2 {sw : Bool} {w : mj_W} (hw : wk sw w) (f : mj_F) (x1 : Int) (x2 : Int)  : mj_run yG_isCovered w f 2 [.inr (.inl 37), .inl x1, .inl x2] [] = if (f 37 9) ≤ x2 then some (w, f, some (.inl 0)) else mj_gd (0 ≤ x2 ∧ x2 < ((60 : Nat) : Int)) (if ¬ (f 39 x2.toNat) = x1 then mj_run yG_isCovered w f 2 [.inr (.inl 37), .inl x1, .inl (mj_w (x2 + 1))] [] else mj_gd (0 ≤ x2 ∧ x2 < ((60 : Nat) : Int)) (mj_bi (mj_call yZ_covers w f [.inr (.inl (48 + 2 * x2.toNat)), .inr (.inl 46)]) (fun f3 v4 => if v4 = 0 then mj_run yG_isCovered w f3 2 [.inr (.inl 37), .inl x1, .inl (mj_w (x2 + 1))] [] else some (w, f3, some (.inl 1))))) := by
  refine ms_iload_n (k := 2) (p' := 3) (by decide +kernel) rfl rfl ?_
  refine ms_aload_n (k := 0) (p' := 4) (by decide +kernel) rfl rfl ?_
  refine ms_geti (idx := 44) (ci := 0) (k := 9) (q := 398) (p' := 7) (by decide +kernel) rfl (k_37 hw) ?_
  refine ms_icmp_ge (off := 37) (t := 44) (p' := 10) (by decide +kernel) rfl (fun hc => ?_) (fun hc => ?_)
  · refine ms_iconst (n := 0) (v := 0) (p' := 45) (by decide +kernel) rfl ?_
    exact (ms_zret (by decide +kernel)).trans (mj_gd_pos (by decide) _)
  · refine ms_aload_n (k := 0) (p' := 11) (by decide +kernel) rfl rfl ?_
    refine ms_getr (idx := 17) (ci := 0) (k := 1) (q := 384) (p' := 14) (by decide +kernel) rfl (k_37 hw) (r_37_1 hw) (by decide) ?_
    refine ms_iload_n (k := 2) (p' := 15) (by decide +kernel) rfl rfl ?_
    refine ms_iald (p' := 16) (by decide +kernel) rfl (k_39 hw) (fun hj1 => ?_)
    refine ms_iload_n (k := 1) (p' := 17) (by decide +kernel) rfl rfl ?_
    refine ms_icmp_ne (off := 21) (t := 38) (p' := 20) (by decide +kernel) rfl (fun hc => ?_) (fun hc => ?_)
    · refine ms_iinc (k := 2) (n := 1) (ls' := [.inr (.inl 37), .inl x1, .inl (mj_w (x2 + 1))]) (p' := 41) (by decide +kernel) rfl rfl rfl ?_
      refine ms_goto (off := (-39)) (p' := 2) (by decide +kernel) ?_
      rfl
    · refine ms_aload_n (k := 0) (p' := 21) (by decide +kernel) rfl rfl ?_
      refine ms_getr (idx := 11) (ci := 0) (k := 0) (q := 382) (p' := 24) (by decide +kernel) rfl (k_37 hw) (r_37_0 hw) (by decide) ?_
      refine ms_iload_n (k := 2) (p' := 25) (by decide +kernel) rfl rfl ?_
      refine ms_aald (p' := 26) (by decide +kernel) rfl (k_38 hw) (rz38 hw) (fun hj2 => ?_)
      refine ms_aload_n (k := 0) (p' := 27) (by decide +kernel) rfl rfl ?_
      refine ms_getr (idx := 40) (ci := 0) (k := 8) (q := 397) (p' := 30) (by decide +kernel) rfl (k_37 hw) (r_37_8 hw) (by decide) ?_
      refine ms_virt_i (idx := 105) (cy := yZ_covers) (n := 1) (a := (48 + 2 * x2.toNat)) (as := [.inr (.inl 46)]) (rest := []) (p' := 33) (by decide +kernel) rfl rfl rfl rfl (zn_k (zz38 hj2) hw) rfl (fun f3 v4 => ?_)
      refine ms_if_eq (off := 5) (t := 38) (p' := 36) (by decide +kernel) rfl (fun hc => ?_) (fun hc => ?_)
      · refine ms_iinc (k := 2) (n := 1) (ls' := [.inr (.inl 37), .inl x1, .inl (mj_w (x2 + 1))]) (p' := 41) (by decide +kernel) rfl rfl rfl ?_
        refine ms_goto (off := (-39)) (p' := 2) (by decide +kernel) ?_
        rfl
      · refine ms_iconst (n := 1) (v := 1) (p' := 37) (by decide +kernel) rfl ?_
        exact (ms_zret (by decide +kernel)).trans (mj_gd_pos (by decide) _)
theorem c_G_grow {sw : Bool} {w : mj_W} (hw : wk sw w) (f : mj_F) (p : Nat) (x2 : Int) (x3 : Int) (hp : pn p) : mj_call yG_grow w f [.inr (.inl 37), .inr (.inl p), .inl x2, .inl x3] = mj_gd (0 ≤ x2 ∧ x2 < ((60 : Nat) : Int)) (mj_bu (mj_call yZ_become w f [.inr (.inl 46), .inr (.inl (48 + 2 * x2.toNat))]) (fun f2 => mj_bu (mj_call yZ_stepBy w f2 [.inr (.inl 46), .inr (.inl p), .inl x3]) (fun f3 => mj_bu (mj_call yZ_roughen w f3 [.inr (.inl 46), .inr (.inl p)]) (fun f4 => if ¬ (f4 46 2) = 0 then some (w, f4, none) else mj_gd (0 ≤ x3 ∧ x3 < ((16 : Nat) : Int)) (mj_bi (mj_call yG_isCovered w f4 [.inr (.inl 37), .inl (f4 (p + 9) x3.toNat)]) (fun f6 v7 => if ¬ v7 = 0 then some (w, f6, none) else mj_gd (0 ≤ x3 ∧ x3 < ((16 : Nat) : Int)) (mj_gd (0 ≤ x2 ∧ x2 < ((60 : Nat) : Int)) (mj_bu (mj_call yG_append w f6 [.inr (.inl 37), .inl (f6 (p + 9) x3.toNat), .inl x2, .inl x3, .inl (mj_w ((f6 42 x2.toNat) + 1))]) (fun f10 => some (w, f10, none)))))))))) := by
  show mj_run yG_grow w f 0 [.inr (.inl 37), .inr (.inl p), .inl x2, .inl x3] [] = _
  refine ms_aload_n (k := 0) (p' := 1) (by decide +kernel) rfl rfl ?_
  refine ms_getr (idx := 40) (ci := 0) (k := 8) (q := 397) (p' := 4) (by decide +kernel) rfl (k_37 hw) (r_37_8 hw) (by decide) ?_
  refine ms_aload_n (k := 0) (p' := 5) (by decide +kernel) rfl rfl ?_
  refine ms_getr (idx := 11) (ci := 0) (k := 0) (q := 382) (p' := 8) (by decide +kernel) rfl (k_37 hw) (r_37_0 hw) (by decide) ?_
  refine ms_iload_n (k := 2) (p' := 9) (by decide +kernel) rfl rfl ?_
  refine ms_aald (p' := 10) (by decide +kernel) rfl (k_38 hw) (rz38 hw) (fun hj1 => ?_)
  refine ms_virt_u (idx := 91) (cy := yZ_become) (n := 1) (a := 46) (as := [.inr (.inl (48 + 2 * x2.toNat))]) (rest := []) (p' := 13) (by decide +kernel) rfl rfl rfl rfl (zn_k zn46 hw) rfl (fun f2 => ?_)
  refine ms_aload_n (k := 0) (p' := 14) (by decide +kernel) rfl rfl ?_
  refine ms_getr (idx := 40) (ci := 0) (k := 8) (q := 397) (p' := 17) (by decide +kernel) rfl (k_37 hw) (r_37_8 hw) (by decide) ?_
  refine ms_aload_n (k := 1) (p' := 18) (by decide +kernel) rfl rfl ?_
  refine ms_iload_n (k := 3) (p' := 19) (by decide +kernel) rfl rfl ?_
  refine ms_virt_u (idx := 95) (cy := yZ_stepBy) (n := 2) (a := 46) (as := [.inr (.inl p), .inl x3]) (rest := []) (p' := 22) (by decide +kernel) rfl rfl rfl rfl (zn_k zn46 hw) rfl (fun f3 => ?_)
  refine ms_aload_n (k := 0) (p' := 23) (by decide +kernel) rfl rfl ?_
  refine ms_getr (idx := 40) (ci := 0) (k := 8) (q := 397) (p' := 26) (by decide +kernel) rfl (k_37 hw) (r_37_8 hw) (by decide) ?_
  refine ms_aload_n (k := 1) (p' := 27) (by decide +kernel) rfl rfl ?_
  refine ms_virt_u (idx := 70) (cy := yZ_roughen) (n := 1) (a := 46) (as := [.inr (.inl p)]) (rest := []) (p' := 30) (by decide +kernel) rfl rfl rfl rfl (zn_k zn46 hw) rfl (fun f4 => ?_)
  refine ms_aload_n (k := 0) (p' := 31) (by decide +kernel) rfl rfl ?_
  refine ms_getr (idx := 40) (ci := 0) (k := 8) (q := 397) (p' := 34) (by decide +kernel) rfl (k_37 hw) (r_37_8 hw) (by decide) ?_
  refine ms_geti (idx := 74) (ci := 7) (k := 2) (q := 364) (p' := 37) (by decide +kernel) rfl (zn_k zn46 hw) ?_
  refine ms_if_ne (off := 36) (t := 73) (p' := 40) (by decide +kernel) rfl (fun hc => ?_) (fun hc => ?_)
  · exact ms_vret (by decide +kernel)
  · refine ms_aload_n (k := 0) (p' := 41) (by decide +kernel) rfl rfl ?_
    refine ms_aload_n (k := 1) (p' := 42) (by decide +kernel) rfl rfl ?_
    refine ms_getr (idx := 98) (ci := 3) (k := 14) (q := 255) (p' := 45) (by decide +kernel) rfl (pn_k hp hw) (pn_r14 hp hw) (by omega) ?_
    refine ms_iload_n (k := 3) (p' := 46) (by decide +kernel) rfl rfl ?_
    refine ms_iald (p' := 47) (by decide +kernel) rfl (pn_k14 hp hw) (fun hj5 => ?_)
    refine ms_virt_i (idx := 101) (cy := yG_isCovered) (n := 1) (a := 37) (as := [.inl (f4 (p + 9) x3.toNat)]) (rest := []) (p' := 50) (by decide +kernel) rfl rfl rfl rfl (k_37 hw) rfl (fun f6 v7 => ?_)
    refine ms_if_ne (off := 23) (t := 73) (p' := 53) (by decide +kernel) rfl (fun hc => ?_) (fun hc => ?_)
    · exact ms_vret (by decide +kernel)
    · refine ms_aload_n (k := 0) (p' := 54) (by decide +kernel) rfl rfl ?_
      refine ms_aload_n (k := 1) (p' := 55) (by decide +kernel) rfl rfl ?_
      refine ms_getr (idx := 98) (ci := 3) (k := 14) (q := 255) (p' := 58) (by decide +kernel) rfl (pn_k hp hw) (pn_r14 hp hw) (by omega) ?_
      refine ms_iload_n (k := 3) (p' := 59) (by decide +kernel) rfl rfl ?_
      refine ms_iald (p' := 60) (by decide +kernel) rfl (pn_k14 hp hw) (fun hj8 => ?_)
      refine ms_iload_n (k := 2) (p' := 61) (by decide +kernel) rfl rfl ?_
      refine ms_iload_n (k := 3) (p' := 62) (by decide +kernel) rfl rfl ?_
      refine ms_aload_n (k := 0) (p' := 63) (by decide +kernel) rfl rfl ?_
      refine ms_getr (idx := 27) (ci := 0) (k := 4) (q := 390) (p' := 66) (by decide +kernel) rfl (k_37 hw) (r_37_4 hw) (by decide) ?_
      refine ms_iload_n (k := 2) (p' := 67) (by decide +kernel) rfl rfl ?_
      refine ms_iald (p' := 68) (by decide +kernel) rfl (k_42 hw) (fun hj9 => ?_)
      refine ms_iconst (n := 1) (v := 1) (p' := 69) (by decide +kernel) rfl ?_
      refine ms_iadd (p' := 70) (by decide +kernel) rfl ?_
      refine ms_virt_u (idx := 78) (cy := yG_append) (n := 4) (a := 37) (as := [.inl (f6 (p + 9) x3.toNat), .inl x2, .inl x3, .inl (mj_w ((f6 42 x2.toNat) + 1))]) (rest := []) (p' := 73) (by decide +kernel) rfl rfl rfl rfl (k_37 hw) rfl (fun f10 => ?_)
      exact ms_vret (by decide +kernel)
theorem c_G_build {sw : Bool} {w : mj_W} (hw : wk sw w) (f : mj_F) (p : Nat) (hp : pn p) : mj_call yG_build w f [.inr (.inl 37), .inr (.inl p)] = mj_bu (mj_call yA_fill w (mj_u f 37 9 0) [.inr (.inl 44), .inl (-2)]) (fun f1 => mj_bu (mj_call yZ_layZero w f1 [.inr (.inl 46), .inl (mj_w ((f1 p 1) + 1))]) (fun f2 => mj_bu (mj_call yZ_waitIn w f2 [.inr (.inl 46), .inr (.inl p), .inl (f2 p 4)]) (fun f3 => mj_bu (mj_call yZ_roughen w f3 [.inr (.inl 46), .inr (.inl p)]) (fun f4 => if (f4 46 2) = 0 then mj_bu (mj_call yG_append w f4 [.inr (.inl 37), .inl (f4 p 4), .inl (-2), .inl (-2), .inl 0]) (fun f5 => mj_run yG_build w f5 73 [.inr (.inl 37), .inr (.inl p), .inl 0, .inr (.inr (.inr 0))] []) else some (w, f4, none))))) := by
  show mj_run yG_build w f 0 [.inr (.inl 37), .inr (.inl p), .inr (.inr (.inr 0)), .inr (.inr (.inr 0))] [] = _
  refine ms_aload_n (k := 0) (p' := 1) (by decide +kernel) rfl rfl ?_
  refine ms_iconst (n := 0) (v := 0) (p' := 2) (by decide +kernel) rfl ?_
  refine ms_puti (idx := 44) (ci := 0) (k := 9) (q := 398) (p' := 5) (by decide +kernel) rfl (k_37 hw) ?_
  refine ms_aload_n (k := 0) (p' := 6) (by decide +kernel) rfl rfl ?_
  refine ms_getr (idx := 33) (ci := 0) (k := 6) (q := 393) (p' := 9) (by decide +kernel) rfl (k_37 hw) (r_37_6 hw) (by decide) ?_
  refine ms_bipush (n := (-2)) (v := (-2)) (p' := 11) (by decide +kernel) rfl ?_
  refine ms_stat_u (idx := 48) (cy := yA_fill) (n := 2) (as := [.inr (.inl 44), .inl (-2)]) (rest := []) (p' := 14) (by decide +kernel) rfl rfl rfl rfl rfl (fun f1 => ?_)
  refine ms_aload_n (k := 0) (p' := 15) (by decide +kernel) rfl rfl ?_
  refine ms_getr (idx := 40) (ci := 0) (k := 8) (q := 397) (p' := 18) (by decide +kernel) rfl (k_37 hw) (r_37_8 hw) (by decide) ?_
  refine ms_aload_n (k := 1) (p' := 19) (by decide +kernel) rfl rfl ?_
  refine ms_geti (idx := 54) (ci := 3) (k := 1) (q := 205) (p' := 22) (by decide +kernel) rfl (pn_k hp hw) ?_
  refine ms_iconst (n := 1) (v := 1) (p' := 23) (by decide +kernel) rfl ?_
  refine ms_iadd (p' := 24) (by decide +kernel) rfl ?_
  refine ms_virt_u (idx := 59) (cy := yZ_layZero) (n := 1) (a := 46) (as := [.inl (mj_w ((f1 p 1) + 1))]) (rest := []) (p' := 27) (by decide +kernel) rfl rfl rfl rfl (zn_k zn46 hw) rfl (fun f2 => ?_)
  refine ms_aload_n (k := 0) (p' := 28) (by decide +kernel) rfl rfl ?_
  refine ms_getr (idx := 40) (ci := 0) (k := 8) (q := 397) (p' := 31) (by decide +kernel) rfl (k_37 hw) (r_37_8 hw) (by decide) ?_
  refine ms_aload_n (k := 1) (p' := 32) (by decide +kernel) rfl rfl ?_
  refine ms_aload_n (k := 1) (p' := 33) (by decide +kernel) rfl rfl ?_
  refine ms_geti (idx := 63) (ci := 3) (k := 4) (q := 218) (p' := 36) (by decide +kernel) rfl (pn_k hp hw) ?_
  refine ms_virt_u (idx := 66) (cy := yZ_waitIn) (n := 2) (a := 46) (as := [.inr (.inl p), .inl (f2 p 4)]) (rest := []) (p' := 39) (by decide +kernel) rfl rfl rfl rfl (zn_k zn46 hw) rfl (fun f3 => ?_)
  refine ms_aload_n (k := 0) (p' := 40) (by decide +kernel) rfl rfl ?_
  refine ms_getr (idx := 40) (ci := 0) (k := 8) (q := 397) (p' := 43) (by decide +kernel) rfl (k_37 hw) (r_37_8 hw) (by decide) ?_
  refine ms_aload_n (k := 1) (p' := 44) (by decide +kernel) rfl rfl ?_
  refine ms_virt_u (idx := 70) (cy := yZ_roughen) (n := 1) (a := 46) (as := [.inr (.inl p)]) (rest := []) (p' := 47) (by decide +kernel) rfl rfl rfl rfl (zn_k zn46 hw) rfl (fun f4 => ?_)
  refine ms_aload_n (k := 0) (p' := 48) (by decide +kernel) rfl rfl ?_
  refine ms_getr (idx := 40) (ci := 0) (k := 8) (q := 397) (p' := 51) (by decide +kernel) rfl (k_37 hw) (r_37_8 hw) (by decide) ?_
  refine ms_geti (idx := 74) (ci := 7) (k := 2) (q := 364) (p' := 54) (by decide +kernel) rfl (zn_k zn46 hw) ?_
  refine ms_if_eq (off := 4) (t := 58) (p' := 57) (by decide +kernel) rfl (fun hc => ?_) (fun hc => ?_)
  · refine ms_aload_n (k := 0) (p' := 59) (by decide +kernel) rfl rfl ?_
    refine ms_aload_n (k := 1) (p' := 60) (by decide +kernel) rfl rfl ?_
    refine ms_geti (idx := 63) (ci := 3) (k := 4) (q := 218) (p' := 63) (by decide +kernel) rfl (pn_k hp hw) ?_
    refine ms_bipush (n := (-2)) (v := (-2)) (p' := 65) (by decide +kernel) rfl ?_
    refine ms_bipush (n := (-2)) (v := (-2)) (p' := 67) (by decide +kernel) rfl ?_
    refine ms_iconst (n := 0) (v := 0) (p' := 68) (by decide +kernel) rfl ?_
    refine ms_virt_u (idx := 78) (cy := yG_append) (n := 4) (a := 37) (as := [.inl (f4 p 4), .inl (-2), .inl (-2), .inl 0]) (rest := []) (p' := 71) (by decide +kernel) rfl rfl rfl rfl (k_37 hw) rfl (fun f5 => ?_)
    refine ms_iconst (n := 0) (v := 0) (p' := 72) (by decide +kernel) rfl ?_
    refine ms_istore_n (k := 2) (ls' := [.inr (.inl 37), .inr (.inl p), .inl 0, .inr (.inr (.inr 0))]) (p' := 73) (by decide +kernel) rfl (Nat.le_of_ble_eq_true rfl) rfl ?_
    rfl
  · exact ms_vret (by decide +kernel)
theorem l_G_build_73 {sw : Bool} {w : mj_W} (hw : wk sw w) (f : mj_F) (p : Nat) (x2 : Int) (u3 : mj_V) (hp : pn p) : mj_run yG_build w f 73 [.inr (.inl 37), .inr (.inl p), .inl x2, u3] [] = if (f 37 9) ≤ x2 then some (w, f, none) else if 60 ≤ (f 37 9) then some (w, f, none) else mj_run yG_build w f 92 [.inr (.inl 37), .inr (.inl p), .inl x2, .inl 0] [] := by
  refine ms_iload_n (k := 2) (p' := 74) (by decide +kernel) rfl rfl ?_
  refine ms_aload_n (k := 0) (p' := 75) (by decide +kernel) rfl rfl ?_
  refine ms_geti (idx := 44) (ci := 0) (k := 9) (q := 398) (p' := 78) (by decide +kernel) rfl (k_37 hw) ?_
  refine ms_icmp_ge (off := 65) (t := 143) (p' := 81) (by decide +kernel) rfl (fun hc => ?_) (fun hc => ?_)
  · exact ms_vret (by decide +kernel)
  · refine ms_aload_n (k := 0) (p' := 82) (by decide +kernel) rfl rfl ?_
    refine ms_geti (idx := 44) (ci := 0) (k := 9) (q := 398) (p' := 85) (by decide +kernel) rfl (k_37 hw) ?_
    refine ms_bipush (n := 60) (v := 60) (p' := 87) (by decide +kernel) rfl ?_
    refine ms_icmp_ge (off := 56) (t := 143) (p' := 90) (by decide +kernel) rfl (fun hc => ?_) (fun hc => ?_)
    · exact ms_vret (by decide +kernel)
    · refine ms_iconst (n := 0) (v := 0) (p' := 91) (by decide +kernel) rfl ?_
      refine ms_istore_n (k := 3) (ls' := [.inr (.inl 37), .inr (.inl p), .inl x2, .inl 0]) (p' := 92) (by decide +kernel) rfl (Nat.le_of_ble_eq_true rfl) rfl ?_
      rfl
theorem l_G_build_92 {sw : Bool} {w : mj_W} (hw : wk sw w) (f : mj_F) (p : Nat) (x2 : Int) (x3 : Int) (hp : pn p) : mj_run yG_build w f 92 [.inr (.inl 37), .inr (.inl p), .inl x2, .inl x3] [] = if (f p 3) ≤ x3 then mj_run yG_build w f 73 [.inr (.inl 37), .inr (.inl p), .inl (mj_w (x2 + 1)), .inl x3] [] else if 60 ≤ (f 37 9) then mj_run yG_build w f 73 [.inr (.inl 37), .inr (.inl p), .inl (mj_w (x2 + 1)), .inl x3] [] else mj_gd (0 ≤ x3 ∧ x3 < ((16 : Nat) : Int)) (mj_gd (0 ≤ x2 ∧ x2 < ((60 : Nat) : Int)) (if ¬ (f (p + 8) x3.toNat) = (f 39 x2.toNat) then mj_run yG_build w f 92 [.inr (.inl 37), .inr (.inl p), .inl x2, .inl (mj_w (x3 + 1))] [] else mj_bu (mj_call yG_grow w f [.inr (.inl 37), .inr (.inl p), .inl x2, .inl x3]) (fun f8 => mj_run yG_build w f8 92 [.inr (.inl 37), .inr (.inl p), .inl x2, .inl (mj_w (x3 + 1))] []))) := by
  refine ms_iload_n (k := 3) (p' := 93) (by decide +kernel) rfl rfl ?_
  refine ms_aload_n (k := 1) (p' := 94) (by decide +kernel) rfl rfl ?_
  refine ms_geti (idx := 82) (ci := 3) (k := 3) (q := 212) (p' := 97) (by decide +kernel) rfl (pn_k hp hw) ?_
  refine ms_icmp_ge (off := 40) (t := 137) (p' := 100) (by decide +kernel) rfl (fun hc => ?_) (fun hc => ?_)
  · refine ms_iinc (k := 2) (n := 1) (ls' := [.inr (.inl 37), .inr (.inl p), .inl (mj_w (x2 + 1)), .inl x3]) (p' := 140) (by decide +kernel) rfl rfl rfl ?_
    refine ms_goto (off := (-67)) (p' := 73) (by decide +kernel) ?_
    rfl
  · refine ms_aload_n (k := 0) (p' := 101) (by decide +kernel) rfl rfl ?_
    refine ms_geti (idx := 44) (ci := 0) (k := 9) (q := 398) (p' := 104) (by decide +kernel) rfl (k_37 hw) ?_
    refine ms_bipush (n := 60) (v := 60) (p' := 106) (by decide +kernel) rfl ?_
    refine ms_icmp_ge (off := 31) (t := 137) (p' := 109) (by decide +kernel) rfl (fun hc => ?_) (fun hc => ?_)
    · refine ms_iinc (k := 2) (n := 1) (ls' := [.inr (.inl 37), .inr (.inl p), .inl (mj_w (x2 + 1)), .inl x3]) (p' := 140) (by decide +kernel) rfl rfl rfl ?_
      refine ms_goto (off := (-67)) (p' := 73) (by decide +kernel) ?_
      rfl
    · refine ms_aload_n (k := 1) (p' := 110) (by decide +kernel) rfl rfl ?_
      refine ms_getr (idx := 84) (ci := 3) (k := 13) (q := 248) (p' := 113) (by decide +kernel) rfl (pn_k hp hw) (pn_r13 hp hw) (by omega) ?_
      refine ms_iload_n (k := 3) (p' := 114) (by decide +kernel) rfl rfl ?_
      refine ms_iald (p' := 115) (by decide +kernel) rfl (pn_k13 hp hw) (fun hj6 => ?_)
      refine ms_aload_n (k := 0) (p' := 116) (by decide +kernel) rfl rfl ?_
      refine ms_getr (idx := 17) (ci := 0) (k := 1) (q := 384) (p' := 119) (by decide +kernel) rfl (k_37 hw) (r_37_1 hw) (by decide) ?_
      refine ms_iload_n (k := 2) (p' := 120) (by decide +kernel) rfl rfl ?_
      refine ms_iald (p' := 121) (by decide +kernel) rfl (k_39 hw) (fun hj7 => ?_)
      refine ms_icmp_ne (off := 10) (t := 131) (p' := 124) (by decide +kernel) rfl (fun hc => ?_) (fun hc => ?_)
      · refine ms_iinc (k := 3) (n := 1) (ls' := [.inr (.inl 37), .inr (.inl p), .inl x2, .inl (mj_w (x3 + 1))]) (p' := 134) (by decide +kernel) rfl rfl rfl ?_
        refine ms_goto (off := (-42)) (p' := 92) (by decide +kernel) ?_
        rfl
      · refine ms_aload_n (k := 0) (p' := 125) (by decide +kernel) rfl rfl ?_
        refine ms_aload_n (k := 1) (p' := 126) (by decide +kernel) rfl rfl ?_
        refine ms_iload_n (k := 2) (p' := 127) (by decide +kernel) rfl rfl ?_
        refine ms_iload_n (k := 3) (p' := 128) (by decide +kernel) rfl rfl ?_
        refine ms_virt_u (idx := 87) (cy := yG_grow) (n := 3) (a := 37) (as := [.inr (.inl p), .inl x2, .inl x3]) (rest := []) (p' := 131) (by decide +kernel) rfl rfl rfl rfl (k_37 hw) rfl (fun f8 => ?_)
        refine ms_iinc (k := 3) (n := 1) (ls' := [.inr (.inl 37), .inr (.inl p), .inl x2, .inl (mj_w (x3 + 1))]) (p' := 134) (by decide +kernel) rfl rfl rfl ?_
        refine ms_goto (off := (-42)) (p' := 92) (by decide +kernel) ?_
        rfl
theorem c_G_nodesOf {sw : Bool} {w : mj_W} (hw : wk sw w) (f : mj_F) (x1 : Int)  : mj_call yG_nodesOf w f [.inr (.inl 37), .inl x1] = mj_run yG_nodesOf w f 4 [.inr (.inl 37), .inl x1, .inl 0, .inl 0] [] := by
  show mj_run yG_nodesOf w f 0 [.inr (.inl 37), .inl x1, .inr (.inr (.inr 0)), .inr (.inr (.inr 0))] [] = _
  refine ms_iconst (n := 0) (v := 0) (p' := 1) (by decide +kernel) rfl ?_
  refine ms_istore_n (k := 2) (ls' := [.inr (.inl 37), .inl x1, .inl 0, .inr (.inr (.inr 0))]) (p' := 2) (by decide +kernel) rfl (Nat.le_of_ble_eq_true rfl) rfl ?_
  refine ms_iconst (n := 0) (v := 0) (p' := 3) (by decide +kernel) rfl ?_
  refine ms_istore_n (k := 3) (ls' := [.inr (.inl 37), .inl x1, .inl 0, .inl 0]) (p' := 4) (by decide +kernel) rfl (Nat.le_of_ble_eq_true rfl) rfl ?_
  rfl
theorem l_G_nodesOf_4 {sw : Bool} {w : mj_W} (hw : wk sw w) (f : mj_F) (x1 : Int) (x2 : Int) (x3 : Int)  : mj_run yG_nodesOf w f 4 [.inr (.inl 37), .inl x1, .inl x2, .inl x3] [] = if (f 37 9) ≤ x3 then some (w, f, some (.inl x2)) else mj_gd (0 ≤ x3 ∧ x3 < ((60 : Nat) : Int)) (if ¬ (f 39 x3.toNat) = x1 then mj_run yG_nodesOf w f 4 [.inr (.inl 37), .inl x1, .inl (mj_w (x2 + 0)), .inl (mj_w (x3 + 1))] [] else mj_run yG_nodesOf w f 4 [.inr (.inl 37), .inl x1, .inl (mj_w (x2 + 1)), .inl (mj_w (x3 + 1))] []) := by
  refine ms_iload_n (k := 3) (p' := 5) (by decide +kernel) rfl rfl ?_
  refine ms_aload_n (k := 0) (p' := 6) (by decide +kernel) rfl rfl ?_
  refine ms_geti (idx := 44) (ci := 0) (k := 9) (q := 398) (p' := 9) (by decide +kernel) rfl (k_37 hw) ?_
  refine ms_icmp_ge (off := 27) (t := 36) (p' := 12) (by decide +kernel) rfl (fun hc => ?_) (fun hc => ?_)
  · refine ms_iload_n (k := 2) (p' := 37) (by decide +kernel) rfl rfl ?_
    exact ms_iret (by decide +kernel)
  · refine ms_iload_n (k := 2) (p' := 13) (by decide +kernel) rfl rfl ?_
    refine ms_aload_n (k := 0) (p' := 14) (by decide +kernel) rfl rfl ?_
    refine ms_getr (idx := 17) (ci := 0) (k := 1) (q := 384) (p' := 17) (by decide +kernel) rfl (k_37 hw) (r_37_1 hw) (by decide) ?_
    refine ms_iload_n (k := 3) (p' := 18) (by decide +kernel) rfl rfl ?_
    refine ms_iald (p' := 19) (by decide +kernel) rfl (k_39 hw) (fun hj1 => ?_)
    refine ms_iload_n (k := 1) (p' := 20) (by decide +kernel) rfl rfl ?_
    refine ms_icmp_ne (off := 7) (t := 27) (p' := 23) (by decide +kernel) rfl (fun hc => ?_) (fun hc => ?_)
    · refine ms_iconst (n := 0) (v := 0) (p' := 28) (by decide +kernel) rfl ?_
      refine ms_iadd (p' := 29) (by decide +kernel) rfl ?_
      refine ms_istore_n (k := 2) (ls' := [.inr (.inl 37), .inl x1, .inl (mj_w (x2 + 0)), .inl x3]) (p' := 30) (by decide +kernel) rfl (Nat.le_of_ble_eq_true rfl) rfl ?_
      refine ms_iinc (k := 3) (n := 1) (ls' := [.inr (.inl 37), .inl x1, .inl (mj_w (x2 + 0)), .inl (mj_w (x3 + 1))]) (p' := 33) (by decide +kernel) rfl rfl rfl ?_
      refine ms_goto (off := (-29)) (p' := 4) (by decide +kernel) ?_
      rfl
    · refine ms_iconst (n := 1) (v := 1) (p' := 24) (by decide +kernel) rfl ?_
      refine ms_goto (off := 4) (p' := 28) (by decide +kernel) ?_
      refine ms_iadd (p' := 29) (by decide +kernel) rfl ?_
      refine ms_istore_n (k := 2) (ls' := [.inr (.inl 37), .inl x1, .inl (mj_w (x2 + 1)), .inl x3]) (p' := 30) (by decide +kernel) rfl (Nat.le_of_ble_eq_true rfl) rfl ?_
      refine ms_iinc (k := 3) (n := 1) (ls' := [.inr (.inl 37), .inl x1, .inl (mj_w (x2 + 1)), .inl (mj_w (x3 + 1))]) (p' := 33) (by decide +kernel) rfl rfl rfl ?_
      refine ms_goto (off := (-29)) (p' := 4) (by decide +kernel) ?_
      rfl
theorem c_G_hasNodeBy {sw : Bool} {w : mj_W} (hw : wk sw w) (f : mj_F) (x1 : Int)  : mj_call yG_hasNodeBy w f [.inr (.inl 37), .inl x1] = mj_run yG_hasNodeBy w f 2 [.inr (.inl 37), .inl x1, .inl 0] [] := by
  show mj_run yG_hasNodeBy w f 0 [.inr (.inl 37), .inl x1, .inr (.inr (.inr 0))] [] = _
  refine ms_iconst (n := 0) (v := 0) (p' := 1) (by decide +kernel) rfl ?_
  refine ms_istore_n (k := 2) (ls' := [.inr (.inl 37), .inl x1, .inl 0]) (p' := 2) (by decide +kernel) rfl (Nat.le_of_ble_eq_true rfl) rfl ?_
  rfl
theorem l_G_hasNodeBy_2 {sw : Bool} {w : mj_W} (hw : wk sw w) (f : mj_F) (x1 : Int) (x2 : Int)  : mj_run yG_hasNodeBy w f 2 [.inr (.inl 37), .inl x1, .inl x2] [] = if (f 37 9) ≤ x2 then some (w, f, some (.inl 0)) else mj_gd (0 ≤ x2 ∧ x2 < ((60 : Nat) : Int)) (if ¬ (f 41 x2.toNat) = x1 then mj_run yG_hasNodeBy w f 2 [.inr (.inl 37), .inl x1, .inl (mj_w (x2 + 1))] [] else some (w, f, some (.inl 1))) := by
  refine ms_iload_n (k := 2) (p' := 3) (by decide +kernel) rfl rfl ?_
  refine ms_aload_n (k := 0) (p' := 4) (by decide +kernel) rfl rfl ?_
  refine ms_geti (idx := 44) (ci := 0) (k := 9) (q := 398) (p' := 7) (by decide +kernel) rfl (k_37 hw) ?_
  refine ms_icmp_ge (off := 21) (t := 28) (p' := 10) (by decide +kernel) rfl (fun hc => ?_) (fun hc => ?_)
  · refine ms_iconst (n := 0) (v := 0) (p' := 29) (by decide +kernel) rfl ?_
    exact (ms_zret (by decide +kernel)).trans (mj_gd_pos (by decide) _)
  · refine ms_aload_n (k := 0) (p' := 11) (by decide +kernel) rfl rfl ?_
    refine ms_getr (idx := 24) (ci := 0) (k := 3) (q := 388) (p' := 14) (by decide +kernel) rfl (k_37 hw) (r_37_3 hw) (by decide) ?_
    refine ms_iload_n (k := 2) (p' := 15) (by decide +kernel) rfl rfl ?_
    refine ms_iald (p' := 16) (by decide +kernel) rfl (k_41 hw) (fun hj1 => ?_)
    refine ms_iload_n (k := 1) (p' := 17) (by decide +kernel) rfl rfl ?_
    refine ms_icmp_ne (off := 5) (t := 22) (p' := 20) (by decide +kernel) rfl (fun hc => ?_) (fun hc => ?_)
    · refine ms_iinc (k := 2) (n := 1) (ls' := [.inr (.inl 37), .inl x1, .inl (mj_w (x2 + 1))]) (p' := 25) (by decide +kernel) rfl rfl rfl ?_
      refine ms_goto (off := (-23)) (p' := 2) (by decide +kernel) ?_
      rfl
    · refine ms_iconst (n := 1) (v := 1) (p' := 21) (by decide +kernel) rfl ?_
      exact (ms_zret (by decide +kernel)).trans (mj_gd_pos (by decide) _)
theorem c_G_findWay {sw : Bool} {w : mj_W} (hw : wk sw w) (f : mj_F) (x1 : Int)  : mj_call yG_findWay w f [.inr (.inl 37), .inl x1] = mj_gd (0 ≤ x1 ∧ x1 < ((8 : Nat) : Int)) (if 0 ≤ (f 44 x1.toNat) then mj_gd (0 ≤ (f 44 x1.toNat) ∧ (f 44 x1.toNat) < ((60 : Nat) : Int)) (mj_run yG_findWay w f 26 [.inr (.inl 37), .inl x1, .inl (f 44 x1.toNat), .inl (f 42 (f 44 x1.toNat).toNat), .inl (mj_w ((f 42 (f 44 x1.toNat).toNat) - 1))] []) else some (w, f, some (.inl (-2)))) := by
  show mj_run yG_findWay w f 0 [.inr (.inl 37), .inl x1, .inr (.inr (.inr 0)), .inr (.inr (.inr 0)), .inr (.inr (.inr 0))] [] = _
  refine ms_aload_n (k := 0) (p' := 1) (by decide +kernel) rfl rfl ?_
  refine ms_getr (idx := 33) (ci := 0) (k := 6) (q := 393) (p' := 4) (by decide +kernel) rfl (k_37 hw) (r_37_6 hw) (by decide) ?_
  refine ms_iload_n (k := 1) (p' := 5) (by decide +kernel) rfl rfl ?_
  refine ms_iald (p' := 6) (by decide +kernel) rfl (k_44 hw) (fun hj1 => ?_)
  refine ms_istore_n (k := 2) (ls' := [.inr (.inl 37), .inl x1, .inl (f 44 x1.toNat), .inr (.inr (.inr 0)), .inr (.inr (.inr 0))]) (p' := 7) (by decide +kernel) rfl (Nat.le_of_ble_eq_true rfl) rfl ?_
  refine ms_iload_n (k := 2) (p' := 8) (by decide +kernel) rfl rfl ?_
  refine ms_if_ge (off := 6) (t := 14) (p' := 11) (by decide +kernel) rfl (fun hc => ?_) (fun hc => ?_)
  · refine ms_aload_n (k := 0) (p' := 15) (by decide +kernel) rfl rfl ?_
    refine ms_getr (idx := 27) (ci := 0) (k := 4) (q := 390) (p' := 18) (by decide +kernel) rfl (k_37 hw) (r_37_4 hw) (by decide) ?_
    refine ms_iload_n (k := 2) (p' := 19) (by decide +kernel) rfl rfl ?_
    refine ms_iald (p' := 20) (by decide +kernel) rfl (k_42 hw) (fun hj2 => ?_)
    refine ms_istore_n (k := 3) (ls' := [.inr (.inl 37), .inl x1, .inl (f 44 x1.toNat), .inl (f 42 (f 44 x1.toNat).toNat), .inr (.inr (.inr 0))]) (p' := 21) (by decide +kernel) rfl (Nat.le_of_ble_eq_true rfl) rfl ?_
    refine ms_iload_n (k := 3) (p' := 22) (by decide +kernel) rfl rfl ?_
    refine ms_iconst (n := 1) (v := 1) (p' := 23) (by decide +kernel) rfl ?_
    refine ms_isub (p' := 24) (by decide +kernel) rfl ?_
    refine ms_istore (k := 4) (ls' := [.inr (.inl 37), .inl x1, .inl (f 44 x1.toNat), .inl (f 42 (f 44 x1.toNat).toNat), .inl (mj_w ((f 42 (f 44 x1.toNat).toNat) - 1))]) (p' := 26) (by decide +kernel) rfl (Nat.le_of_ble_eq_true rfl) rfl ?_
    rfl
  · refine ms_bipush (n := (-2)) (v := (-2)) (p' := 13) (by decide +kernel) rfl ?_
    exact ms_iret (by decide +kernel)
theorem l_G_findWay_26 {sw : Bool} {w : mj_W} (hw : wk sw w) (f : mj_F) (x1 : Int) (x2 : Int) (x3 : Int) (x4 : Int)  : mj_run yG_findWay w f 26 [.inr (.inl 37), .inl x1, .inl x2, .inl x3, .inl x4] [] = if x4 < 0 then some (w, f, some (.inl x3)) else if x2 < 0 then some (w, f, some (.inl x3)) else mj_gd (0 ≤ x2 ∧ x2 < ((60 : Nat) : Int)) (mj_gd (0 ≤ x4 ∧ x4 < ((60 : Nat) : Int)) (mj_gd (0 ≤ x2 ∧ x2 < ((60 : Nat) : Int)) (mj_run yG_findWay w (mj_u f 45 x4.toNat (f 41 x2.toNat)) 26 [.inr (.inl 37), .inl x1, .inl ((mj_u f 45 x4.toNat (f 41 x2.toNat)) 40 x2.toNat), .inl x3, .inl (mj_w (x4 + (-1)))] []))) := by
  refine ms_iload (k := 4) (p' := 28) (by decide +kernel) rfl rfl ?_
  refine ms_if_lt (off := 33) (t := 61) (p' := 31) (by decide +kernel) rfl (fun hc => ?_) (fun hc => ?_)
  · refine ms_iload_n (k := 3) (p' := 62) (by decide +kernel) rfl rfl ?_
    exact ms_iret (by decide +kernel)
  · refine ms_iload_n (k := 2) (p' := 32) (by decide +kernel) rfl rfl ?_
    refine ms_if_lt (off := 29) (t := 61) (p' := 35) (by decide +kernel) rfl (fun hc => ?_) (fun hc => ?_)
    · refine ms_iload_n (k := 3) (p' := 62) (by decide +kernel) rfl rfl ?_
      exact ms_iret (by decide +kernel)
    · refine ms_aload_n (k := 0) (p' := 36) (by decide +kernel) rfl rfl ?_
      refine ms_getr (idx := 36) (ci := 0) (k := 7) (q := 395) (p' := 39) (by decide +kernel) rfl (k_37 hw) (r_37_7 hw) (by decide) ?_
      refine ms_iload (k := 4) (p' := 41) (by decide +kernel) rfl rfl ?_
      refine ms_aload_n (k := 0) (p' := 42) (by decide +kernel) rfl rfl ?_
      refine ms_getr (idx := 24) (ci := 0) (k := 3) (q := 388) (p' := 45) (by decide +kernel) rfl (k_37 hw) (r_37_3 hw) (by decide) ?_
      refine ms_iload_n (k := 2) (p' := 46) (by decide +kernel) rfl rfl ?_
      refine ms_iald (p' := 47) (by decide +kernel) rfl (k_41 hw) (fun hj3 => ?_)
      refine ms_iast (p' := 48) (by decide +kernel) rfl (k_45 hw) (fun hj4 => ?_)
      refine ms_aload_n (k := 0) (p' := 49) (by decide +kernel) rfl rfl ?_
      refine ms_getr (idx := 21) (ci := 0) (k := 2) (q := 386) (p' := 52) (by decide +kernel) rfl (k_37 hw) (r_37_2 hw) (by decide) ?_
      refine ms_iload_n (k := 2) (p' := 53) (by decide +kernel) rfl rfl ?_
      refine ms_iald (p' := 54) (by decide +kernel) rfl (k_40 hw) (fun hj5 => ?_)
      refine ms_istore_n (k := 2) (ls' := [.inr (.inl 37), .inl x1, .inl ((mj_u f 45 x4.toNat (f 41 x2.toNat)) 40 x2.toNat), .inl x3, .inl x4]) (p' := 55) (by decide +kernel) rfl (Nat.le_of_ble_eq_true rfl) rfl ?_
      refine ms_iinc (k := 4) (n := (-1)) (ls' := [.inr (.inl 37), .inl x1, .inl ((mj_u f 45 x4.toNat (f 41 x2.toNat)) 40 x2.toNat), .inl x3, .inl (mj_w (x4 + (-1)))]) (p' := 58) (by decide +kernel) rfl rfl rfl ?_
      refine ms_goto (off := (-32)) (p' := 26) (by decide +kernel) ?_
      rfl
theorem c_G_openEdges {sw : Bool} {w : mj_W} (hw : wk sw w) (f : mj_F) (p : Nat) (x2 : Int) (hp : pn p) : mj_call yG_openEdges w f [.inr (.inl 37), .inr (.inl p), .inl x2] = mj_gd (0 ≤ x2 ∧ x2 < ((60 : Nat) : Int)) (if (f 43 x2.toNat) = (-1) then mj_run yG_openEdges w f 22 [.inr (.inl 37), .inr (.inl p), .inl x2, .inl 0, .inl 0] [] else mj_gd (0 ≤ x2 ∧ x2 < ((60 : Nat) : Int)) (some (w, f, some (.inl (f 43 x2.toNat))))) := by
  show mj_run yG_openEdges w f 0 [.inr (.inl 37), .inr (.inl p), .inl x2, .inr (.inr (.inr 0)), .inr (.inr (.inr 0))] [] = _
  refine ms_aload_n (k := 0) (p' := 1) (by decide +kernel) rfl rfl ?_
  refine ms_getr (idx := 30) (ci := 0) (k := 5) (q := 392) (p' := 4) (by decide +kernel) rfl (k_37 hw) (r_37_5 hw) (by decide) ?_
  refine ms_iload_n (k := 2) (p' := 5) (by decide +kernel) rfl rfl ?_
  refine ms_iald (p' := 6) (by decide +kernel) rfl (k_43 hw) (fun hj1 => ?_)
  refine ms_iconst (n := (-1)) (v := (-1)) (p' := 7) (by decide +kernel) rfl ?_
  refine ms_icmp_eq (off := 10) (t := 17) (p' := 10) (by decide +kernel) rfl (fun hc => ?_) (fun hc => ?_)
  · refine ms_iconst (n := 0) (v := 0) (p' := 18) (by decide +kernel) rfl ?_
    refine ms_istore_n (k := 3) (ls' := [.inr (.inl 37), .inr (.inl p), .inl x2, .inl 0, .inr (.inr (.inr 0))]) (p' := 19) (by decide +kernel) rfl (Nat.le_of_ble_eq_true rfl) rfl ?_
    refine ms_iconst (n := 0) (v := 0) (p' := 20) (by decide +kernel) rfl ?_
    refine ms_istore (k := 4) (ls' := [.inr (.inl 37), .inr (.inl p), .inl x2, .inl 0, .inl 0]) (p' := 22) (by decide +kernel) rfl (Nat.le_of_ble_eq_true rfl) rfl ?_
    rfl
  · refine ms_aload_n (k := 0) (p' := 11) (by decide +kernel) rfl rfl ?_
    refine ms_getr (idx := 30) (ci := 0) (k := 5) (q := 392) (p' := 14) (by decide +kernel) rfl (k_37 hw) (r_37_5 hw) (by decide) ?_
    refine ms_iload_n (k := 2) (p' := 15) (by decide +kernel) rfl rfl ?_
    refine ms_iald (p' := 16) (by decide +kernel) rfl (k_43 hw) (fun hj2 => ?_)
    exact ms_iret (by decide +kernel)
theorem l_G_openEdges_22 {sw : Bool} {w : mj_W} (hw : wk sw w) (f : mj_F) (p : Nat) (x2 : Int) (x3 : Int) (x4 : Int) (hp : pn p) : mj_run yG_openEdges w f 22 [.inr (.inl 37), .inr (.inl p), .inl x2, .inl x3, .inl x4] [] = if (f p 3) ≤ x4 then mj_gd (0 ≤ x2 ∧ x2 < ((60 : Nat) : Int)) (some (w, (mj_u f 43 x2.toNat x3), some (.inl x3))) else mj_gd (0 ≤ x4 ∧ x4 < ((16 : Nat) : Int)) (mj_gd (0 ≤ x2 ∧ x2 < ((60 : Nat) : Int)) (if ¬ (f (p + 8) x4.toNat) = (f 39 x2.toNat) then mj_run yG_openEdges w f 22 [.inr (.inl 37), .inr (.inl p), .inl x2, .inl x3, .inl (mj_w (x4 + 1))] [] else mj_gd (0 ≤ x2 ∧ x2 < ((60 : Nat) : Int)) (mj_bu (mj_call yZ_become w f [.inr (.inl 46), .inr (.inl (48 + 2 * x2.toNat))]) (fun f7 => mj_bu (mj_call yZ_stepBy w f7 [.inr (.inl 46), .inr (.inl p), .inl x4]) (fun f8 => if (f8 46 2) = 0 then mj_run yG_openEdges w f8 22 [.inr (.inl 37), .inr (.inl p), .inl x2, .inl (mj_or x3 (mj_shl 1 x4)), .inl (mj_w (x4 + 1))] [] else mj_run yG_openEdges w f8 22 [.inr (.inl 37), .inr (.inl p), .inl x2, .inl (mj_or x3 0), .inl (mj_w (x4 + 1))] []))))) := by
  refine ms_iload (k := 4) (p' := 24) (by decide +kernel) rfl rfl ?_
  refine ms_aload_n (k := 1) (p' := 25) (by decide +kernel) rfl rfl ?_
  refine ms_geti (idx := 82) (ci := 3) (k := 3) (q := 212) (p' := 28) (by decide +kernel) rfl (pn_k hp hw) ?_
  refine ms_icmp_ge (off := 69) (t := 97) (p' := 31) (by decide +kernel) rfl (fun hc => ?_) (fun hc => ?_)
  · refine ms_aload_n (k := 0) (p' := 98) (by decide +kernel) rfl rfl ?_
    refine ms_getr (idx := 30) (ci := 0) (k := 5) (q := 392) (p' := 101) (by decide +kernel) rfl (k_37 hw) (r_37_5 hw) (by decide) ?_
    refine ms_iload_n (k := 2) (p' := 102) (by decide +kernel) rfl rfl ?_
    refine ms_iload_n (k := 3) (p' := 103) (by decide +kernel) rfl rfl ?_
    refine ms_iast (p' := 104) (by decide +kernel) rfl (k_43 hw) (fun hj3 => ?_)
    refine ms_iload_n (k := 3) (p' := 105) (by decide +kernel) rfl rfl ?_
    exact ms_iret (by decide +kernel)
  · refine ms_aload_n (k := 1) (p' := 32) (by decide +kernel) rfl rfl ?_
    refine ms_getr (idx := 84) (ci := 3) (k := 13) (q := 248) (p' := 35) (by decide +kernel) rfl (pn_k hp hw) (pn_r13 hp hw) (by omega) ?_
    refine ms_iload (k := 4) (p' := 37) (by decide +kernel) rfl rfl ?_
    refine ms_iald (p' := 38) (by decide +kernel) rfl (pn_k13 hp hw) (fun hj4 => ?_)
    refine ms_aload_n (k := 0) (p' := 39) (by decide +kernel) rfl rfl ?_
    refine ms_getr (idx := 17) (ci := 0) (k := 1) (q := 384) (p' := 42) (by decide +kernel) rfl (k_37 hw) (r_37_1 hw) (by decide) ?_
    refine ms_iload_n (k := 2) (p' := 43) (by decide +kernel) rfl rfl ?_
    refine ms_iald (p' := 44) (by decide +kernel) rfl (k_39 hw) (fun hj5 => ?_)
    refine ms_icmp_ne (off := 47) (t := 91) (p' := 47) (by decide +kernel) rfl (fun hc => ?_) (fun hc => ?_)
    · refine ms_iinc (k := 4) (n := 1) (ls' := [.inr (.inl 37), .inr (.inl p), .inl x2, .inl x3, .inl (mj_w (x4 + 1))]) (p' := 94) (by decide +kernel) rfl rfl rfl ?_
      refine ms_goto (off := (-72)) (p' := 22) (by decide +kernel) ?_
      rfl
    · refine ms_aload_n (k := 0) (p' := 48) (by decide +kernel) rfl rfl ?_
      refine ms_getr (idx := 40) (ci := 0) (k := 8) (q := 397) (p' := 51) (by decide +kernel) rfl (k_37 hw) (r_37_8 hw) (by decide) ?_
      refine ms_aload_n (k := 0) (p' := 52) (by decide +kernel) rfl rfl ?_
      refine ms_getr (idx := 11) (ci := 0) (k := 0) (q := 382) (p' := 55) (by decide +kernel) rfl (k_37 hw) (r_37_0 hw) (by decide) ?_
      refine ms_iload_n (k := 2) (p' := 56) (by decide +kernel) rfl rfl ?_
      refine ms_aald (p' := 57) (by decide +kernel) rfl (k_38 hw) (rz38 hw) (fun hj6 => ?_)
      refine ms_virt_u (idx := 91) (cy := yZ_become) (n := 1) (a := 46) (as := [.inr (.inl (48 + 2 * x2.toNat))]) (rest := []) (p' := 60) (by decide +kernel) rfl rfl rfl rfl (zn_k zn46 hw) rfl (fun f7 => ?_)
      refine ms_aload_n (k := 0) (p' := 61) (by decide +kernel) rfl rfl ?_
      refine ms_getr (idx := 40) (ci := 0) (k := 8) (q := 397) (p' := 64) (by decide +kernel) rfl (k_37 hw) (r_37_8 hw) (by decide) ?_
      refine ms_aload_n (k := 1) (p' := 65) (by decide +kernel) rfl rfl ?_
      refine ms_iload (k := 4) (p' := 67) (by decide +kernel) rfl rfl ?_
      refine ms_virt_u (idx := 95) (cy := yZ_stepBy) (n := 2) (a := 46) (as := [.inr (.inl p), .inl x4]) (rest := []) (p' := 70) (by decide +kernel) rfl rfl rfl rfl (zn_k zn46 hw) rfl (fun f8 => ?_)
      refine ms_iload_n (k := 3) (p' := 71) (by decide +kernel) rfl rfl ?_
      refine ms_aload_n (k := 0) (p' := 72) (by decide +kernel) rfl rfl ?_
      refine ms_getr (idx := 40) (ci := 0) (k := 8) (q := 397) (p' := 75) (by decide +kernel) rfl (k_37 hw) (r_37_8 hw) (by decide) ?_
      refine ms_geti (idx := 74) (ci := 7) (k := 2) (q := 364) (p' := 78) (by decide +kernel) rfl (zn_k zn46 hw) ?_
      refine ms_if_eq (off := 7) (t := 85) (p' := 81) (by decide +kernel) rfl (fun hc => ?_) (fun hc => ?_)
      · refine ms_iconst (n := 1) (v := 1) (p' := 86) (by decide +kernel) rfl ?_
        refine ms_iload (k := 4) (p' := 88) (by decide +kernel) rfl rfl ?_
        refine ms_ishl (p' := 89) (by decide +kernel) rfl ?_
        refine ms_ior (p' := 90) (by decide +kernel) rfl ?_
        refine ms_istore_n (k := 3) (ls' := [.inr (.inl 37), .inr (.inl p), .inl x2, .inl (mj_or x3 (mj_shl 1 x4)), .inl x4]) (p' := 91) (by decide +kernel) rfl (Nat.le_of_ble_eq_true rfl) rfl ?_
        refine ms_iinc (k := 4) (n := 1) (ls' := [.inr (.inl 37), .inr (.inl p), .inl x2, .inl (mj_or x3 (mj_shl 1 x4)), .inl (mj_w (x4 + 1))]) (p' := 94) (by decide +kernel) rfl rfl rfl ?_
        refine ms_goto (off := (-72)) (p' := 22) (by decide +kernel) ?_
        rfl
      · refine ms_iconst (n := 0) (v := 0) (p' := 82) (by decide +kernel) rfl ?_
        refine ms_goto (off := 7) (p' := 89) (by decide +kernel) ?_
        refine ms_ior (p' := 90) (by decide +kernel) rfl ?_
        refine ms_istore_n (k := 3) (ls' := [.inr (.inl 37), .inr (.inl p), .inl x2, .inl (mj_or x3 0), .inl x4]) (p' := 91) (by decide +kernel) rfl (Nat.le_of_ble_eq_true rfl) rfl ?_
        refine ms_iinc (k := 4) (n := 1) (ls' := [.inr (.inl 37), .inr (.inl p), .inl x2, .inl (mj_or x3 0), .inl (mj_w (x4 + 1))]) (p' := 94) (by decide +kernel) rfl rfl rfl ?_
        refine ms_goto (off := (-72)) (p' := 22) (by decide +kernel) ?_
        rfl
theorem c_T_lower {sw : Bool} {w : mj_W} (hw : wk sw w) (f : mj_F) (x1 : Int) (x2 : Int) (x3 : Int)  : mj_call yT_lower w f [.inr (.inl 170), .inl x1, .inl x2, .inl x3] = mj_gd (0 ≤ (mj_w ((mj_w (x1 * 21)) + x2)) ∧ (mj_w ((mj_w (x1 * 21)) + x2)) < ((441 : Nat) : Int)) (mj_gd (0 ≤ (mj_w ((mj_w (x1 * 21)) + x2)) ∧ (mj_w ((mj_w (x1 * 21)) + x2)) < ((441 : Nat) : Int)) (some (w, (mj_u f 171 (mj_w ((mj_w (x1 * 21)) + x2)).toNat (if x3 < (f 171 (mj_w ((mj_w (x1 * 21)) + x2)).toNat) then x3 else (f 171 (mj_w ((mj_w (x1 * 21)) + x2)).toNat))), none))) := by
  show mj_run yT_lower w f 0 [.inr (.inl 170), .inl x1, .inl x2, .inl x3, .inr (.inr (.inr 0))] [] = _
  refine ms_iload_n (k := 1) (p' := 1) (by decide +kernel) rfl rfl ?_
  refine ms_bipush (n := 21) (v := 21) (p' := 3) (by decide +kernel) rfl ?_
  refine ms_imul (p' := 4) (by decide +kernel) rfl ?_
  refine ms_iload_n (k := 2) (p' := 5) (by decide +kernel) rfl rfl ?_
  refine ms_iadd (p' := 6) (by decide +kernel) rfl ?_
  refine ms_istore (k := 4) (ls' := [.inr (.inl 170), .inl x1, .inl x2, .inl x3, .inl (mj_w ((mj_w (x1 * 21)) + x2))]) (p' := 8) (by decide +kernel) rfl (Nat.le_of_ble_eq_true rfl) rfl ?_
  refine ms_aload_n (k := 0) (p' := 9) (by decide +kernel) rfl rfl ?_
  refine ms_getr (idx := 9) (ci := 5) (k := 0) (q := 446) (p' := 12) (by decide +kernel) rfl (k_170 hw) (r_170_0 hw) (by decide) ?_
  refine ms_iload (k := 4) (p' := 14) (by decide +kernel) rfl rfl ?_
  refine ms_aload_n (k := 0) (p' := 15) (by decide +kernel) rfl rfl ?_
  refine ms_getr (idx := 9) (ci := 5) (k := 0) (q := 446) (p' := 18) (by decide +kernel) rfl (k_170 hw) (r_170_0 hw) (by decide) ?_
  refine ms_iload (k := 4) (p' := 20) (by decide +kernel) rfl rfl ?_
  refine ms_iald (p' := 21) (by decide +kernel) rfl (k_171 hw) (fun hj1 => ?_)
  refine ms_iload_n (k := 3) (p' := 22) (by decide +kernel) rfl rfl ?_
  refine ms_math2 (idx := 115) (k := 13) (x := 0) (q := 1186) (v := (if x3 < (f 171 (mj_w ((mj_w (x1 * 21)) + x2)).toNat) then x3 else (f 171 (mj_w ((mj_w (x1 * 21)) + x2)).toNat))) (p' := 25) (by decide +kernel) (Or.inr ⟨rfl, rfl⟩) rfl rfl ?_
  refine ms_iast (p' := 26) (by decide +kernel) rfl (k_171 hw) (fun hj2 => ?_)
  exact ms_vret (by decide +kernel)
theorem c_T_keepRules {sw : Bool} {w : mj_W} (hw : wk sw w) (f : mj_F) (p : Nat) (x2 : Int) (x3 : Int) (hp : pn p) : mj_call yT_keepRules w f [.inr (.inl 170), .inr (.inl p), .inl x2, .inl x3] = mj_run yT_keepRules w f 3 [.inr (.inl 170), .inr (.inl p), .inl x2, .inl x3, .inl 0, .inr (.inr (.inr 0)), .inr (.inr (.inr 0)), .inr (.inr (.inr 0)), .inr (.inr (.inr 0))] [] := by
  show mj_run yT_keepRules w f 0 [.inr (.inl 170), .inr (.inl p), .inl x2, .inl x3, .inr (.inr (.inr 0)), .inr (.inr (.inr 0)), .inr (.inr (.inr 0)), .inr (.inr (.inr 0)), .inr (.inr (.inr 0))] [] = _
  refine ms_iconst (n := 0) (v := 0) (p' := 1) (by decide +kernel) rfl ?_
  refine ms_istore (k := 4) (ls' := [.inr (.inl 170), .inr (.inl p), .inl x2, .inl x3, .inl 0, .inr (.inr (.inr 0)), .inr (.inr (.inr 0)), .inr (.inr (.inr 0)), .inr (.inr (.inr 0))]) (p' := 3) (by decide +kernel) rfl (Nat.le_of_ble_eq_true rfl) rfl ?_
  rfl
theorem l_T_keepRules_3 {sw : Bool} {w : mj_W} (hw : wk sw w) (f : mj_F) (p : Nat) (x2 : Int) (x3 : Int) (x4 : Int) (u5 : mj_V) (u6 : mj_V) (u7 : mj_V) (u8 : mj_V) (hp : pn p) : mj_run yT_keepRules w f 3 [.inr (.inl 170), .inr (.inl p), .inl x2, .inl x3, .inl x4, u5, u6, u7, u8] [] = mj_gd (0 ≤ x2 ∧ x2 < ((24 : Nat) : Int)) (if (f (p + 4) x2.toNat) ≤ x4 then some (w, f, none) else mj_gd (0 ≤ (mj_w ((mj_w (x2 * 6)) + x4)) ∧ (mj_w ((mj_w (x2 * 6)) + x4)) < ((144 : Nat) : Int)) (mj_gd (0 ≤ (mj_w ((mj_w (x2 * 6)) + x4)) ∧ (mj_w ((mj_w (x2 * 6)) + x4)) < ((144 : Nat) : Int)) (mj_gd (0 ≤ (mj_w ((mj_w (x2 * 6)) + x4)) ∧ (mj_w ((mj_w (x2 * 6)) + x4)) < ((144 : Nat) : Int)) (mj_gd (0 ≤ (f (p + 5) (mj_w ((mj_w (x2 * 6)) + x4)).toNat) ∧ (f (p + 5) (mj_w ((mj_w (x2 * 6)) + x4)).toNat) < ((4 : Nat) : Int)) (mj_gd (0 ≤ (f (p + 5) (mj_w ((mj_w (x2 * 6)) + x4)).toNat) ∧ (f (p + 5) (mj_w ((mj_w (x2 * 6)) + x4)).toNat) < ((4 : Nat) : Int)) (mj_bi (mj_call yX_upperOf w f [.inl (f (p + 6) (mj_w ((mj_w (x2 * 6)) + x4)).toNat), .inl (mj_w ((f (p + 7) (mj_w ((mj_w (x2 * 6)) + x4)).toNat) - (f 174 (f (p + 5) (mj_w ((mj_w (x2 * 6)) + x4)).toNat).toNat)))]) (fun f7 v8 => mj_bu (mj_call yT_lower w f7 [.inr (.inl 170), .inl x3, .inl (f 173 (f (p + 5) (mj_w ((mj_w (x2 * 6)) + x4)).toNat).toNat), .inl v8]) (fun f9 => mj_gd (0 ≤ (f (p + 5) (mj_w ((mj_w (x2 * 6)) + x4)).toNat) ∧ (f (p + 5) (mj_w ((mj_w (x2 * 6)) + x4)).toNat) < ((4 : Nat) : Int)) (mj_bi (mj_call yX_lowerOf w f9 [.inl (f (p + 6) (mj_w ((mj_w (x2 * 6)) + x4)).toNat), .inl (mj_w ((f (p + 7) (mj_w ((mj_w (x2 * 6)) + x4)).toNat) - (f 174 (f (p + 5) (mj_w ((mj_w (x2 * 6)) + x4)).toNat).toNat)))]) (fun f11 v12 => mj_bu (mj_call yT_lower w f11 [.inr (.inl 170), .inl (f9 173 (f (p + 5) (mj_w ((mj_w (x2 * 6)) + x4)).toNat).toNat), .inl x3, .inl v12]) (fun f13 => mj_run yT_keepRules w f13 3 [.inr (.inl 170), .inr (.inl p), .inl x2, .inl x3, .inl (mj_w (x4 + 1)), .inl (mj_w ((mj_w (x2 * 6)) + x4)), .inl (f (p + 5) (mj_w ((mj_w (x2 * 6)) + x4)).toNat), .inl (f (p + 6) (mj_w ((mj_w (x2 * 6)) + x4)).toNat), .inl (mj_w ((f (p + 7) (mj_w ((mj_w (x2 * 6)) + x4)).toNat) - (f 174 (f (p + 5) (mj_w ((mj_w (x2 * 6)) + x4)).toNat).toNat)))] []))))))))))) := by
  refine ms_iload (k := 4) (p' := 5) (by decide +kernel) rfl rfl ?_
  refine ms_aload_n (k := 1) (p' := 6) (by decide +kernel) rfl rfl ?_
  refine ms_getr (idx := 96) (ci := 3) (k := 9) (q := 232) (p' := 9) (by decide +kernel) rfl (pn_k hp hw) (pn_r9 hp hw) (by omega) ?_
  refine ms_iload_n (k := 2) (p' := 10) (by decide +kernel) rfl rfl ?_
  refine ms_iald (p' := 11) (by decide +kernel) rfl (pn_k9 hp hw) (fun hj1 => ?_)
  refine ms_icmp_ge (off := 91) (t := 102) (p' := 14) (by decide +kernel) rfl (fun hc => ?_) (fun hc => ?_)
  · exact ms_vret (by decide +kernel)
  · refine ms_iload_n (k := 2) (p' := 15) (by decide +kernel) rfl rfl ?_
    refine ms_bipush (n := 6) (v := 6) (p' := 17) (by decide +kernel) rfl ?_
    refine ms_imul (p' := 18) (by decide +kernel) rfl ?_
    refine ms_iload (k := 4) (p' := 20) (by decide +kernel) rfl rfl ?_
    refine ms_iadd (p' := 21) (by decide +kernel) rfl ?_
    refine ms_istore (k := 5) (ls' := [.inr (.inl 170), .inr (.inl p), .inl x2, .inl x3, .inl x4, .inl (mj_w ((mj_w (x2 * 6)) + x4)), u6, u7, u8]) (p' := 23) (by decide +kernel) rfl (Nat.le_of_ble_eq_true rfl) rfl ?_
    refine ms_aload_n (k := 1) (p' := 24) (by decide +kernel) rfl rfl ?_
    refine ms_getr (idx := 99) (ci := 3) (k := 10) (q := 236) (p' := 27) (by decide +kernel) rfl (pn_k hp hw) (pn_r10 hp hw) (by omega) ?_
    refine ms_iload (k := 5) (p' := 29) (by decide +kernel) rfl rfl ?_
    refine ms_iald (p' := 30) (by decide +kernel) rfl (pn_k10 hp hw) (fun hj2 => ?_)
    refine ms_istore (k := 6) (ls' := [.inr (.inl 170), .inr (.inl p), .inl x2, .inl x3, .inl x4, .inl (mj_w ((mj_w (x2 * 6)) + x4)), .inl (f (p + 5) (mj_w ((mj_w (x2 * 6)) + x4)).toNat), u7, u8]) (p' := 32) (by decide +kernel) rfl (Nat.le_of_ble_eq_true rfl) rfl ?_
    refine ms_aload_n (k := 1) (p' := 33) (by decide +kernel) rfl rfl ?_
    refine ms_getr (idx := 102) (ci := 3) (k := 11) (q := 240) (p' := 36) (by decide +kernel) rfl (pn_k hp hw) (pn_r11 hp hw) (by omega) ?_
    refine ms_iload (k := 5) (p' := 38) (by decide +kernel) rfl rfl ?_
    refine ms_iald (p' := 39) (by decide +kernel) rfl (pn_k11 hp hw) (fun hj3 => ?_)
    refine ms_istore (k := 7) (ls' := [.inr (.inl 170), .inr (.inl p), .inl x2, .inl x3, .inl x4, .inl (mj_w ((mj_w (x2 * 6)) + x4)), .inl (f (p + 5) (mj_w ((mj_w (x2 * 6)) + x4)).toNat), .inl (f (p + 6) (mj_w ((mj_w (x2 * 6)) + x4)).toNat), u8]) (p' := 41) (by decide +kernel) rfl (Nat.le_of_ble_eq_true rfl) rfl ?_
    refine ms_aload_n (k := 1) (p' := 42) (by decide +kernel) rfl rfl ?_
    refine ms_getr (idx := 105) (ci := 3) (k := 12) (q := 244) (p' := 45) (by decide +kernel) rfl (pn_k hp hw) (pn_r12 hp hw) (by omega) ?_
    refine ms_iload (k := 5) (p' := 47) (by decide +kernel) rfl rfl ?_
    refine ms_iald (p' := 48) (by decide +kernel) rfl (pn_k12 hp hw) (fun hj4 => ?_)
    refine ms_aload_n (k := 0) (p' := 49) (by decide +kernel) rfl rfl ?_
    refine ms_getr (idx := 21) (ci := 5) (k := 3) (q := 449) (p' := 52) (by decide +kernel) rfl (k_170 hw) (r_170_3 hw) (by decide) ?_
    refine ms_iload (k := 6) (p' := 54) (by decide +kernel) rfl rfl ?_
    refine ms_iald (p' := 55) (by decide +kernel) rfl (k_174 hw) (fun hj5 => ?_)
    refine ms_isub (p' := 56) (by decide +kernel) rfl ?_
    refine ms_istore (k := 8) (ls' := [.inr (.inl 170), .inr (.inl p), .inl x2, .inl x3, .inl x4, .inl (mj_w ((mj_w (x2 * 6)) + x4)), .inl (f (p + 5) (mj_w ((mj_w (x2 * 6)) + x4)).toNat), .inl (f (p + 6) (mj_w ((mj_w (x2 * 6)) + x4)).toNat), .inl (mj_w ((f (p + 7) (mj_w ((mj_w (x2 * 6)) + x4)).toNat) - (f 174 (f (p + 5) (mj_w ((mj_w (x2 * 6)) + x4)).toNat).toNat)))]) (p' := 58) (by decide +kernel) rfl (Nat.le_of_ble_eq_true rfl) rfl ?_
    refine ms_aload_n (k := 0) (p' := 59) (by decide +kernel) rfl rfl ?_
    refine ms_iload_n (k := 3) (p' := 60) (by decide +kernel) rfl rfl ?_
    refine ms_aload_n (k := 0) (p' := 61) (by decide +kernel) rfl rfl ?_
    refine ms_getr (idx := 18) (ci := 5) (k := 2) (q := 448) (p' := 64) (by decide +kernel) rfl (k_170 hw) (r_170_2 hw) (by decide) ?_
    refine ms_iload (k := 6) (p' := 66) (by decide +kernel) rfl rfl ?_
    refine ms_iald (p' := 67) (by decide +kernel) rfl (k_173 hw) (fun hj6 => ?_)
    refine ms_iload (k := 7) (p' := 69) (by decide +kernel) rfl rfl ?_
    refine ms_iload (k := 8) (p' := 71) (by decide +kernel) rfl rfl ?_
    refine ms_stat_i (idx := 108) (cy := yX_upperOf) (n := 2) (as := [.inl (f (p + 6) (mj_w ((mj_w (x2 * 6)) + x4)).toNat), .inl (mj_w ((f (p + 7) (mj_w ((mj_w (x2 * 6)) + x4)).toNat) - (f 174 (f (p + 5) (mj_w ((mj_w (x2 * 6)) + x4)).toNat).toNat)))]) (rest := [.inl (f 173 (f (p + 5) (mj_w ((mj_w (x2 * 6)) + x4)).toNat).toNat), .inl x3, .inr (.inl 170)]) (p' := 74) (by decide +kernel) rfl rfl rfl rfl rfl (fun f7 v8 => ?_)
    refine ms_virt_u (idx := 50) (cy := yT_lower) (n := 3) (a := 170) (as := [.inl x3, .inl (f 173 (f (p + 5) (mj_w ((mj_w (x2 * 6)) + x4)).toNat).toNat), .inl v8]) (rest := []) (p' := 77) (by decide +kernel) rfl rfl rfl rfl (k_170 hw) rfl (fun f9 => ?_)
    refine ms_aload_n (k := 0) (p' := 78) (by decide +kernel) rfl rfl ?_
    refine ms_aload_n (k := 0) (p' := 79) (by decide +kernel) rfl rfl ?_
    refine ms_getr (idx := 18) (ci := 5) (k := 2) (q := 448) (p' := 82) (by decide +kernel) rfl (k_170 hw) (r_170_2 hw) (by decide) ?_
    refine ms_iload (k := 6) (p' := 84) (by decide +kernel) rfl rfl ?_
    refine ms_iald (p' := 85) (by decide +kernel) rfl (k_173 hw) (fun hj10 => ?_)
    refine ms_iload_n (k := 3) (p' := 86) (by decide +kernel) rfl rfl ?_
    refine ms_iload (k := 7) (p' := 88) (by decide +kernel) rfl rfl ?_
    refine ms_iload (k := 8) (p' := 90) (by decide +kernel) rfl rfl ?_
    refine ms_stat_i (idx := 112) (cy := yX_lowerOf) (n := 2) (as := [.inl (f (p + 6) (mj_w ((mj_w (x2 * 6)) + x4)).toNat), .inl (mj_w ((f (p + 7) (mj_w ((mj_w (x2 * 6)) + x4)).toNat) - (f 174 (f (p + 5) (mj_w ((mj_w (x2 * 6)) + x4)).toNat).toNat)))]) (rest := [.inl x3, .inl (f9 173 (f (p + 5) (mj_w ((mj_w (x2 * 6)) + x4)).toNat).toNat), .inr (.inl 170)]) (p' := 93) (by decide +kernel) rfl rfl rfl rfl rfl (fun f11 v12 => ?_)
    refine ms_virt_u (idx := 50) (cy := yT_lower) (n := 3) (a := 170) (as := [.inl (f9 173 (f (p + 5) (mj_w ((mj_w (x2 * 6)) + x4)).toNat).toNat), .inl x3, .inl v12]) (rest := []) (p' := 96) (by decide +kernel) rfl rfl rfl rfl (k_170 hw) rfl (fun f13 => ?_)
    refine ms_iinc (k := 4) (n := 1) (ls' := [.inr (.inl 170), .inr (.inl p), .inl x2, .inl x3, .inl (mj_w (x4 + 1)), .inl (mj_w ((mj_w (x2 * 6)) + x4)), .inl (f (p + 5) (mj_w ((mj_w (x2 * 6)) + x4)).toNat), .inl (f (p + 6) (mj_w ((mj_w (x2 * 6)) + x4)).toNat), .inl (mj_w ((f (p + 7) (mj_w ((mj_w (x2 * 6)) + x4)).toNat) - (f 174 (f (p + 5) (mj_w ((mj_w (x2 * 6)) + x4)).toNat).toNat)))]) (p' := 99) (by decide +kernel) rfl rfl rfl ?_
    refine ms_goto (off := (-96)) (p' := 3) (by decide +kernel) ?_
    rfl
theorem c_T_takeEdge {sw : Bool} {w : mj_W} (hw : wk sw w) (f : mj_F) (p : Nat) (x2 : Int) (x3 : Int) (hp : pn p) : mj_call yT_takeEdge w f [.inr (.inl 170), .inr (.inl p), .inl x2, .inl x3] = mj_bu (mj_call yT_lower w f [.inr (.inl 170), .inl (mj_w (x3 - 1)), .inl x3, .inl 1]) (fun f1 => mj_gd (0 ≤ x2 ∧ x2 < ((16 : Nat) : Int)) (mj_bi (mj_call yX_stayRules w f1 [.inl (f1 (p + 8) x2.toNat)]) (fun f3 v4 => mj_bu (mj_call yT_keepRules w f3 [.inr (.inl 170), .inr (.inl p), .inl v4, .inl x3]) (fun f5 => mj_bi (mj_call yX_edgeRules w f5 [.inl x2]) (fun f6 v7 => mj_bu (mj_call yT_keepRules w f6 [.inr (.inl 170), .inr (.inl p), .inl v7, .inl x3]) (fun f8 => mj_run yT_takeEdge w f8 37 [.inr (.inl 170), .inr (.inl p), .inl x2, .inl x3, .inl 0, .inr (.inr (.inr 0))] [])))))) := by
  show mj_run yT_takeEdge w f 0 [.inr (.inl 170), .inr (.inl p), .inl x2, .inl x3, .inr (.inr (.inr 0)), .inr (.inr (.inr 0))] [] = _
  refine ms_aload_n (k := 0) (p' := 1) (by decide +kernel) rfl rfl ?_
  refine ms_iload_n (k := 3) (p' := 2) (by decide +kernel) rfl rfl ?_
  refine ms_iconst (n := 1) (v := 1) (p' := 3) (by decide +kernel) rfl ?_
  refine ms_isub (p' := 4) (by decide +kernel) rfl ?_
  refine ms_iload_n (k := 3) (p' := 5) (by decide +kernel) rfl rfl ?_
  refine ms_iconst (n := 1) (v := 1) (p' := 6) (by decide +kernel) rfl ?_
  refine ms_virt_u (idx := 50) (cy := yT_lower) (n := 3) (a := 170) (as := [.inl (mj_w (x3 - 1)), .inl x3, .inl 1]) (rest := []) (p' := 9) (by decide +kernel) rfl rfl rfl rfl (k_170 hw) rfl (fun f1 => ?_)
  refine ms_aload_n (k := 0) (p' := 10) (by decide +kernel) rfl rfl ?_
  refine ms_aload_n (k := 1) (p' := 11) (by decide +kernel) rfl rfl ?_
  refine ms_aload_n (k := 1) (p' := 12) (by decide +kernel) rfl rfl ?_
  refine ms_getr (idx := 80) (ci := 3) (k := 13) (q := 250) (p' := 15) (by decide +kernel) rfl (pn_k hp hw) (pn_r13 hp hw) (by omega) ?_
  refine ms_iload_n (k := 2) (p' := 16) (by decide +kernel) rfl rfl ?_
  refine ms_iald (p' := 17) (by decide +kernel) rfl (pn_k13 hp hw) (fun hj2 => ?_)
  refine ms_stat_i (idx := 59) (cy := yX_stayRules) (n := 1) (as := [.inl (f1 (p + 8) x2.toNat)]) (rest := [.inr (.inl p), .inr (.inl 170)]) (p' := 20) (by decide +kernel) rfl rfl rfl rfl rfl (fun f3 v4 => ?_)
  refine ms_iload_n (k := 3) (p' := 21) (by decide +kernel) rfl rfl ?_
  refine ms_virt_u (idx := 63) (cy := yT_keepRules) (n := 3) (a := 170) (as := [.inr (.inl p), .inl v4, .inl x3]) (rest := []) (p' := 24) (by decide +kernel) rfl rfl rfl rfl (k_170 hw) rfl (fun f5 => ?_)
  refine ms_aload_n (k := 0) (p' := 25) (by decide +kernel) rfl rfl ?_
  refine ms_aload_n (k := 1) (p' := 26) (by decide +kernel) rfl rfl ?_
  refine ms_iload_n (k := 2) (p' := 27) (by decide +kernel) rfl rfl ?_
  refine ms_stat_i (idx := 83) (cy := yX_edgeRules) (n := 1) (as := [.inl x2]) (rest := [.inr (.inl p), .inr (.inl 170)]) (p' := 30) (by decide +kernel) rfl rfl rfl rfl rfl (fun f6 v7 => ?_)
  refine ms_iload_n (k := 3) (p' := 31) (by decide +kernel) rfl rfl ?_
  refine ms_virt_u (idx := 63) (cy := yT_keepRules) (n := 3) (a := 170) (as := [.inr (.inl p), .inl v7, .inl x3]) (rest := []) (p' := 34) (by decide +kernel) rfl rfl rfl rfl (k_170 hw) rfl (fun f8 => ?_)
  refine ms_iconst (n := 0) (v := 0) (p' := 35) (by decide +kernel) rfl ?_
  refine ms_istore (k := 4) (ls' := [.inr (.inl 170), .inr (.inl p), .inl x2, .inl x3, .inl 0, .inr (.inr (.inr 0))]) (p' := 37) (by decide +kernel) rfl (Nat.le_of_ble_eq_true rfl) rfl ?_
  rfl
theorem l_T_takeEdge_37 {sw : Bool} {w : mj_W} (hw : wk sw w) (f : mj_F) (p : Nat) (x2 : Int) (x3 : Int) (x4 : Int) (u5 : mj_V) (hp : pn p) : mj_run yT_takeEdge w f 37 [.inr (.inl 170), .inr (.inl p), .inl x2, .inl x3, .inl x4, u5] [] = mj_gd (0 ≤ x2 ∧ x2 < ((16 : Nat) : Int)) (if (f (p + 10) x2.toNat) ≤ x4 then mj_gd (0 ≤ x2 ∧ x2 < ((16 : Nat) : Int)) (mj_bi (mj_call yX_stayRules w f [.inl (f (p + 9) x2.toNat)]) (fun f11 v12 => mj_bu (mj_call yT_keepRules w f11 [.inr (.inl 170), .inr (.inl p), .inl v12, .inl x3]) (fun f13 => some (w, f13, none)))) else mj_gd (0 ≤ (mj_w ((mj_w (x2 * 4)) + x4)) ∧ (mj_w ((mj_w (x2 * 4)) + x4)) < ((64 : Nat) : Int)) (mj_gd (0 ≤ (f (p + 11) (mj_w ((mj_w (x2 * 4)) + x4)).toNat) ∧ (f (p + 11) (mj_w ((mj_w (x2 * 4)) + x4)).toNat) < ((4 : Nat) : Int)) (mj_gd (0 ≤ (mj_w ((mj_w (x2 * 4)) + x4)) ∧ (mj_w ((mj_w (x2 * 4)) + x4)) < ((64 : Nat) : Int)) (mj_gd (0 ≤ (mj_w ((mj_w (x2 * 4)) + x4)) ∧ (mj_w ((mj_w (x2 * 4)) + x4)) < ((64 : Nat) : Int)) (mj_gd (0 ≤ ((mj_u f 173 (f (p + 11) (mj_w ((mj_w (x2 * 4)) + x4)).toNat).toNat x3) (p + 11) (mj_w ((mj_w (x2 * 4)) + x4)).toNat) ∧ ((mj_u f 173 (f (p + 11) (mj_w ((mj_w (x2 * 4)) + x4)).toNat).toNat x3) (p + 11) (mj_w ((mj_w (x2 * 4)) + x4)).toNat) < ((4 : Nat) : Int)) (mj_run yT_takeEdge w (mj_u (mj_u f 173 (f (p + 11) (mj_w ((mj_w (x2 * 4)) + x4)).toNat).toNat x3) 174 ((mj_u f 173 (f (p + 11) (mj_w ((mj_w (x2 * 4)) + x4)).toNat).toNat x3) (p + 11) (mj_w ((mj_w (x2 * 4)) + x4)).toNat).toNat ((mj_u f 173 (f (p + 11) (mj_w ((mj_w (x2 * 4)) + x4)).toNat).toNat x3) (p + 12) (mj_w ((mj_w (x2 * 4)) + x4)).toNat)) 37 [.inr (.inl 170), .inr (.inl p), .inl x2, .inl x3, .inl (mj_w (x4 + 1)), .inl (mj_w ((mj_w (x2 * 4)) + x4))] [])))))) := by
  refine ms_iload (k := 4) (p' := 39) (by decide +kernel) rfl rfl ?_
  refine ms_aload_n (k := 1) (p' := 40) (by decide +kernel) rfl rfl ?_
  refine ms_getr (idx := 86) (ci := 3) (k := 15) (q := 262) (p' := 43) (by decide +kernel) rfl (pn_k hp hw) (pn_r15 hp hw) (by omega) ?_
  refine ms_iload_n (k := 2) (p' := 44) (by decide +kernel) rfl rfl ?_
  refine ms_iald (p' := 45) (by decide +kernel) rfl (pn_k15 hp hw) (fun hj9 => ?_)
  refine ms_icmp_ge (off := 49) (t := 94) (p' := 48) (by decide +kernel) rfl (fun hc => ?_) (fun hc => ?_)
  · refine ms_aload_n (k := 0) (p' := 95) (by decide +kernel) rfl rfl ?_
    refine ms_aload_n (k := 1) (p' := 96) (by decide +kernel) rfl rfl ?_
    refine ms_aload_n (k := 1) (p' := 97) (by decide +kernel) rfl rfl ?_
    refine ms_getr (idx := 93) (ci := 3) (k := 14) (q := 257) (p' := 100) (by decide +kernel) rfl (pn_k hp hw) (pn_r14 hp hw) (by omega) ?_
    refine ms_iload_n (k := 2) (p' := 101) (by decide +kernel) rfl rfl ?_
    refine ms_iald (p' := 102) (by decide +kernel) rfl (pn_k14 hp hw) (fun hj10 => ?_)
    refine ms_stat_i (idx := 59) (cy := yX_stayRules) (n := 1) (as := [.inl (f (p + 9) x2.toNat)]) (rest := [.inr (.inl p), .inr (.inl 170)]) (p' := 105) (by decide +kernel) rfl rfl rfl rfl rfl (fun f11 v12 => ?_)
    refine ms_iload_n (k := 3) (p' := 106) (by decide +kernel) rfl rfl ?_
    refine ms_virt_u (idx := 63) (cy := yT_keepRules) (n := 3) (a := 170) (as := [.inr (.inl p), .inl v12, .inl x3]) (rest := []) (p' := 109) (by decide +kernel) rfl rfl rfl rfl (k_170 hw) rfl (fun f13 => ?_)
    exact ms_vret (by decide +kernel)
  · refine ms_iload_n (k := 2) (p' := 49) (by decide +kernel) rfl rfl ?_
    refine ms_iconst (n := 4) (v := 4) (p' := 50) (by decide +kernel) rfl ?_
    refine ms_imul (p' := 51) (by decide +kernel) rfl ?_
    refine ms_iload (k := 4) (p' := 53) (by decide +kernel) rfl rfl ?_
    refine ms_iadd (p' := 54) (by decide +kernel) rfl ?_
    refine ms_istore (k := 5) (ls' := [.inr (.inl 170), .inr (.inl p), .inl x2, .inl x3, .inl x4, .inl (mj_w ((mj_w (x2 * 4)) + x4))]) (p' := 56) (by decide +kernel) rfl (Nat.le_of_ble_eq_true rfl) rfl ?_
    refine ms_aload_n (k := 0) (p' := 57) (by decide +kernel) rfl rfl ?_
    refine ms_getr (idx := 18) (ci := 5) (k := 2) (q := 448) (p' := 60) (by decide +kernel) rfl (k_170 hw) (r_170_2 hw) (by decide) ?_
    refine ms_aload_n (k := 1) (p' := 61) (by decide +kernel) rfl rfl ?_
    refine ms_getr (idx := 89) (ci := 3) (k := 16) (q := 266) (p' := 64) (by decide +kernel) rfl (pn_k hp hw) (pn_r16 hp hw) (by omega) ?_
    refine ms_iload (k := 5) (p' := 66) (by decide +kernel) rfl rfl ?_
    refine ms_iald (p' := 67) (by decide +kernel) rfl (pn_k16 hp hw) (fun hj14 => ?_)
    refine ms_iload_n (k := 3) (p' := 68) (by decide +kernel) rfl rfl ?_
    refine ms_iast (p' := 69) (by decide +kernel) rfl (k_173 hw) (fun hj15 => ?_)
    refine ms_aload_n (k := 0) (p' := 70) (by decide +kernel) rfl rfl ?_
    refine ms_getr (idx := 21) (ci := 5) (k := 3) (q := 449) (p' := 73) (by decide +kernel) rfl (k_170 hw) (r_170_3 hw) (by decide) ?_
    refine ms_aload_n (k := 1) (p' := 74) (by decide +kernel) rfl rfl ?_
    refine ms_getr (idx := 89) (ci := 3) (k := 16) (q := 266) (p' := 77) (by decide +kernel) rfl (pn_k hp hw) (pn_r16 hp hw) (by omega) ?_
    refine ms_iload (k := 5) (p' := 79) (by decide +kernel) rfl rfl ?_
    refine ms_iald (p' := 80) (by decide +kernel) rfl (pn_k16 hp hw) (fun hj16 => ?_)
    refine ms_aload_n (k := 1) (p' := 81) (by decide +kernel) rfl rfl ?_
    refine ms_getr (idx := 92) (ci := 3) (k := 17) (q := 270) (p' := 84) (by decide +kernel) rfl (pn_k hp hw) (pn_r17 hp hw) (by omega) ?_
    refine ms_iload (k := 5) (p' := 86) (by decide +kernel) rfl rfl ?_
    refine ms_iald (p' := 87) (by decide +kernel) rfl (pn_k17 hp hw) (fun hj17 => ?_)
    refine ms_iast (p' := 88) (by decide +kernel) rfl (k_174 hw) (fun hj18 => ?_)
    refine ms_iinc (k := 4) (n := 1) (ls' := [.inr (.inl 170), .inr (.inl p), .inl x2, .inl x3, .inl (mj_w (x4 + 1)), .inl (mj_w ((mj_w (x2 * 4)) + x4))]) (p' := 91) (by decide +kernel) rfl rfl rfl ?_
    refine ms_goto (off := (-54)) (p' := 37) (by decide +kernel) ?_
    rfl
theorem c_T_build {sw : Bool} {w : mj_W} (hw : wk sw w) (f : mj_F) (p : Nat) (hp : pn p) : mj_call yT_build w f [.inr (.inl 170), .inr (.inl p), .inr (.inl 168)] = mj_bu (mj_call yA_fill w f [.inr (.inl 171), .inl 268435456]) (fun f1 => mj_bu (mj_call yA_fill w f1 [.inr (.inl 173), .inl 0]) (fun f2 => mj_bu (mj_call yA_fill w f2 [.inr (.inl 174), .inl 0]) (fun f3 => mj_run yT_build w f3 35 [.inr (.inl 170), .inr (.inl p), .inr (.inl 168), .inl (mj_w ((f 168 1) + 1)), .inl 0] []))) := by
  show mj_run yT_build w f 0 [.inr (.inl 170), .inr (.inl p), .inr (.inl 168), .inr (.inr (.inr 0)), .inr (.inr (.inr 0))] [] = _
  refine ms_aload_n (k := 2) (p' := 1) (by decide +kernel) rfl rfl ?_
  refine ms_geti (idx := 37) (ci := 2) (k := 1) (q := 432) (p' := 4) (by decide +kernel) rfl (k_168 hw) ?_
  refine ms_iconst (n := 1) (v := 1) (p' := 5) (by decide +kernel) rfl ?_
  refine ms_iadd (p' := 6) (by decide +kernel) rfl ?_
  refine ms_istore_n (k := 3) (ls' := [.inr (.inl 170), .inr (.inl p), .inr (.inl 168), .inl (mj_w ((f 168 1) + 1)), .inr (.inr (.inr 0))]) (p' := 7) (by decide +kernel) rfl (Nat.le_of_ble_eq_true rfl) rfl ?_
  refine ms_aload_n (k := 0) (p' := 8) (by decide +kernel) rfl rfl ?_
  refine ms_getr (idx := 9) (ci := 5) (k := 0) (q := 446) (p' := 11) (by decide +kernel) rfl (k_170 hw) (r_170_0 hw) (by decide) ?_
  refine ms_ldc (idx := 43) (v := 268435456) (p' := 13) (by decide +kernel) rfl ?_
  refine ms_stat_u (idx := 44) (cy := yA_fill) (n := 2) (as := [.inr (.inl 171), .inl 268435456]) (rest := []) (p' := 16) (by decide +kernel) rfl rfl rfl rfl rfl (fun f1 => ?_)
  refine ms_aload_n (k := 0) (p' := 17) (by decide +kernel) rfl rfl ?_
  refine ms_getr (idx := 18) (ci := 5) (k := 2) (q := 448) (p' := 20) (by decide +kernel) rfl (k_170 hw) (r_170_2 hw) (by decide) ?_
  refine ms_iconst (n := 0) (v := 0) (p' := 21) (by decide +kernel) rfl ?_
  refine ms_stat_u (idx := 44) (cy := yA_fill) (n := 2) (as := [.inr (.inl 173), .inl 0]) (rest := []) (p' := 24) (by decide +kernel) rfl rfl rfl rfl rfl (fun f2 => ?_)
  refine ms_aload_n (k := 0) (p' := 25) (by decide +kernel) rfl rfl ?_
  refine ms_getr (idx := 21) (ci := 5) (k := 3) (q := 449) (p' := 28) (by decide +kernel) rfl (k_170 hw) (r_170_3 hw) (by decide) ?_
  refine ms_iconst (n := 0) (v := 0) (p' := 29) (by decide +kernel) rfl ?_
  refine ms_stat_u (idx := 44) (cy := yA_fill) (n := 2) (as := [.inr (.inl 174), .inl 0]) (rest := []) (p' := 32) (by decide +kernel) rfl rfl rfl rfl rfl (fun f3 => ?_)
  refine ms_iconst (n := 0) (v := 0) (p' := 33) (by decide +kernel) rfl ?_
  refine ms_istore (k := 4) (ls' := [.inr (.inl 170), .inr (.inl p), .inr (.inl 168), .inl (mj_w ((f 168 1) + 1)), .inl 0]) (p' := 35) (by decide +kernel) rfl (Nat.le_of_ble_eq_true rfl) rfl ?_
  rfl
theorem l_T_build_35 {sw : Bool} {w : mj_W} (hw : wk sw w) (f : mj_F) (p : Nat) (x3 : Int) (x4 : Int) (hp : pn p) : mj_run yT_build w f 35 [.inr (.inl 170), .inr (.inl p), .inr (.inl 168), .inl x3, .inl x4] [] = if x3 ≤ x4 then mj_bi (mj_call yX_stayRules w f [.inl (f p 4)]) (fun f4 v5 => mj_bu (mj_call yT_keepRules w f4 [.inr (.inl 170), .inr (.inl p), .inl v5, .inl 0]) (fun f6 => mj_run yT_build w f6 72 [.inr (.inl 170), .inr (.inl p), .inr (.inl 168), .inl x3, .inl 0] [])) else mj_bu (mj_call yT_lower w f [.inr (.inl 170), .inl x4, .inl x4, .inl 1]) (fun f7 => mj_run yT_build w f7 35 [.inr (.inl 170), .inr (.inl p), .inr (.inl 168), .inl x3, .inl (mj_w (x4 + 1))] []) := by
  refine ms_iload (k := 4) (p' := 37) (by decide +kernel) rfl rfl ?_
  refine ms_iload_n (k := 3) (p' := 38) (by decide +kernel) rfl rfl ?_
  refine ms_icmp_ge (off := 18) (t := 56) (p' := 41) (by decide +kernel) rfl (fun hc => ?_) (fun hc => ?_)
  · refine ms_aload_n (k := 0) (p' := 57) (by decide +kernel) rfl rfl ?_
    refine ms_aload_n (k := 1) (p' := 58) (by decide +kernel) rfl rfl ?_
    refine ms_aload_n (k := 1) (p' := 59) (by decide +kernel) rfl rfl ?_
    refine ms_geti (idx := 54) (ci := 3) (k := 4) (q := 219) (p' := 62) (by decide +kernel) rfl (pn_k hp hw) ?_
    refine ms_stat_i (idx := 59) (cy := yX_stayRules) (n := 1) (as := [.inl (f p 4)]) (rest := [.inr (.inl p), .inr (.inl 170)]) (p' := 65) (by decide +kernel) rfl rfl rfl rfl rfl (fun f4 v5 => ?_)
    refine ms_iconst (n := 0) (v := 0) (p' := 66) (by decide +kernel) rfl ?_
    refine ms_virt_u (idx := 63) (cy := yT_keepRules) (n := 3) (a := 170) (as := [.inr (.inl p), .inl v5, .inl 0]) (rest := []) (p' := 69) (by decide +kernel) rfl rfl rfl rfl (k_170 hw) rfl (fun f6 => ?_)
    refine ms_iconst (n := 0) (v := 0) (p' := 70) (by decide +kernel) rfl ?_
    refine ms_istore (k := 4) (ls' := [.inr (.inl 170), .inr (.inl p), .inr (.inl 168), .inl x3, .inl 0]) (p' := 72) (by decide +kernel) rfl (Nat.le_of_ble_eq_true rfl) rfl ?_
    rfl
  · refine ms_aload_n (k := 0) (p' := 42) (by decide +kernel) rfl rfl ?_
    refine ms_iload (k := 4) (p' := 44) (by decide +kernel) rfl rfl ?_
    refine ms_iload (k := 4) (p' := 46) (by decide +kernel) rfl rfl ?_
    refine ms_iconst (n := 1) (v := 1) (p' := 47) (by decide +kernel) rfl ?_
    refine ms_virt_u (idx := 50) (cy := yT_lower) (n := 3) (a := 170) (as := [.inl x4, .inl x4, .inl 1]) (rest := []) (p' := 50) (by decide +kernel) rfl rfl rfl rfl (k_170 hw) rfl (fun f7 => ?_)
    refine ms_iinc (k := 4) (n := 1) (ls' := [.inr (.inl 170), .inr (.inl p), .inr (.inl 168), .inl x3, .inl (mj_w (x4 + 1))]) (p' := 53) (by decide +kernel) rfl rfl rfl ?_
    refine ms_goto (off := (-18)) (p' := 35) (by decide +kernel) ?_
    rfl
theorem l_T_build_72 {sw : Bool} {w : mj_W} (hw : wk sw w) (f : mj_F) (p : Nat) (x3 : Int) (x4 : Int) (hp : pn p) : mj_run yT_build w f 72 [.inr (.inl 170), .inr (.inl p), .inr (.inl 168), .inl x3, .inl x4] [] = if (f 168 1) ≤ x4 then mj_bi (mj_call yX_closeCells w f [.inr (.inl 171), .inl 21, .inl x3]) (fun f8 v9 => mj_gd (v9 = 0 ∨ v9 = 1) (some (w, (mj_u (mj_u (mj_u f8 170 6 v9) 170 4 0) 170 5 1), none))) else mj_gd (0 ≤ x4 ∧ x4 < ((20 : Nat) : Int)) (mj_bu (mj_call yT_takeEdge w f [.inr (.inl 170), .inr (.inl p), .inl (f 169 x4.toNat), .inl (mj_w (x4 + 1))]) (fun f11 => mj_run yT_build w f11 72 [.inr (.inl 170), .inr (.inl p), .inr (.inl 168), .inl x3, .inl (mj_w (x4 + 1))] [])) := by
  refine ms_iload (k := 4) (p' := 74) (by decide +kernel) rfl rfl ?_
  refine ms_aload_n (k := 2) (p' := 75) (by decide +kernel) rfl rfl ?_
  refine ms_geti (idx := 37) (ci := 2) (k := 1) (q := 432) (p' := 78) (by decide +kernel) rfl (k_168 hw) ?_
  refine ms_icmp_ge (off := 25) (t := 103) (p' := 81) (by decide +kernel) rfl (fun hc => ?_) (fun hc => ?_)
  · refine ms_aload_n (k := 0) (p' := 104) (by decide +kernel) rfl rfl ?_
    refine ms_aload_n (k := 0) (p' := 105) (by decide +kernel) rfl rfl ?_
    refine ms_getr (idx := 9) (ci := 5) (k := 0) (q := 446) (p' := 108) (by decide +kernel) rfl (k_170 hw) (r_170_0 hw) (by decide) ?_
    refine ms_bipush (n := 21) (v := 21) (p' := 110) (by decide +kernel) rfl ?_
    refine ms_iload_n (k := 3) (p' := 111) (by decide +kernel) rfl rfl ?_
    refine ms_stat_i (idx := 73) (cy := yX_closeCells) (n := 3) (as := [.inr (.inl 171), .inl 21, .inl x3]) (rest := [.inr (.inl 170)]) (p' := 114) (by decide +kernel) rfl rfl rfl rfl rfl (fun f8 v9 => ?_)
    refine ms_putz (idx := 31) (ci := 5) (k := 6) (q := 454) (p' := 117) (by decide +kernel) rfl (k_170 hw) (fun hz_ => ?_)
    refine ms_aload_n (k := 0) (p' := 118) (by decide +kernel) rfl rfl ?_
    refine ms_iconst (n := 0) (v := 0) (p' := 119) (by decide +kernel) rfl ?_
    refine Eq.trans (ms_putz (idx := 24) (ci := 5) (k := 4) (q := 450) (p' := 122) (by decide +kernel) rfl (k_170 hw) (fun _ => ?_)) (mj_gd_pos (by decide) _)
    refine ms_aload_n (k := 0) (p' := 123) (by decide +kernel) rfl rfl ?_
    refine ms_iconst (n := 1) (v := 1) (p' := 124) (by decide +kernel) rfl ?_
    refine Eq.trans (ms_putz (idx := 28) (ci := 5) (k := 5) (q := 452) (p' := 127) (by decide +kernel) rfl (k_170 hw) (fun _ => ?_)) (mj_gd_pos (by decide) _)
    exact ms_vret (by decide +kernel)
  · refine ms_aload_n (k := 0) (p' := 82) (by decide +kernel) rfl rfl ?_
    refine ms_aload_n (k := 1) (p' := 83) (by decide +kernel) rfl rfl ?_
    refine ms_aload_n (k := 2) (p' := 84) (by decide +kernel) rfl rfl ?_
    refine ms_getr (idx := 67) (ci := 2) (k := 0) (q := 428) (p' := 87) (by decide +kernel) rfl (k_168 hw) (r_168_0 hw) (by decide) ?_
    refine ms_iload (k := 4) (p' := 89) (by decide +kernel) rfl rfl ?_
    refine ms_iald (p' := 90) (by decide +kernel) rfl (k_169 hw) (fun hj10 => ?_)
    refine ms_iload (k := 4) (p' := 92) (by decide +kernel) rfl rfl ?_
    refine ms_iconst (n := 1) (v := 1) (p' := 93) (by decide +kernel) rfl ?_
    refine ms_iadd (p' := 94) (by decide +kernel) rfl ?_
    refine ms_virt_u (idx := 70) (cy := yT_takeEdge) (n := 3) (a := 170) (as := [.inr (.inl p), .inl (f 169 x4.toNat), .inl (mj_w (x4 + 1))]) (rest := []) (p' := 97) (by decide +kernel) rfl rfl rfl rfl (k_170 hw) rfl (fun f11 => ?_)
    refine ms_iinc (k := 4) (n := 1) (ls' := [.inr (.inl 170), .inr (.inl p), .inr (.inl 168), .inl x3, .inl (mj_w (x4 + 1))]) (p' := 100) (by decide +kernel) rfl rfl rfl ?_
    refine ms_goto (off := (-28)) (p' := 72) (by decide +kernel) ?_
    rfl
theorem c_T_span {sw : Bool} {w : mj_W} (hw : wk sw w) (f : mj_F) (x1 : Int) (x2 : Int) (x3 : Int) (x4 : Int)  : mj_call yT_span w f [.inr (.inl 170), .inl x1, .inl x2, .inl x3, .inl x4] = mj_gd (0 ≤ (mj_w ((mj_w (x1 * 21)) + x2)) ∧ (mj_w ((mj_w (x1 * 21)) + x2)) < ((441 : Nat) : Int)) (mj_gd (0 ≤ (mj_w ((mj_w (x2 * 21)) + x1)) ∧ (mj_w ((mj_w (x2 * 21)) + x1)) < ((441 : Nat) : Int)) (if x4 = 0 then mj_bi (mj_call yX_numberOf w f [.inl (f 171 (mj_w ((mj_w (x1 * 21)) + x2)).toNat)]) (fun f3 v4 => some (w, f3, some (.inl (mj_w (x3 - v4))))) else if x4 = 1 then mj_bi (mj_call yX_reachedOf w f [.inl (f 171 (mj_w ((mj_w (x1 * 21)) + x2)).toNat)]) (fun f5 v6 => some (w, f5, some (.inl v6))) else if x4 = 2 then if (f 171 (mj_w ((mj_w (x2 * 21)) + x1)).toNat) < 268435456 then mj_bi (mj_call yX_numberOf w f [.inl (f 171 (mj_w ((mj_w (x2 * 21)) + x1)).toNat)]) (fun f7 v8 => some (w, f7, some (.inl (mj_w (x3 + v8))))) else some (w, f, some (.inl 10000)) else if (f 171 (mj_w ((mj_w (x2 * 21)) + x1)).toNat) < 268435456 then mj_bi (mj_call yX_reachedOf w f [.inl (f 171 (mj_w ((mj_w (x2 * 21)) + x1)).toNat)]) (fun f9 v10 => some (w, f9, some (.inl v10))) else some (w, f, some (.inl 0)))) := by
  show mj_run yT_span w f 0 [.inr (.inl 170), .inl x1, .inl x2, .inl x3, .inl x4, .inr (.inr (.inr 0)), .inr (.inr (.inr 0))] [] = _
  refine ms_aload_n (k := 0) (p' := 1) (by decide +kernel) rfl rfl ?_
  refine ms_getr (idx := 9) (ci := 5) (k := 0) (q := 446) (p' := 4) (by decide +kernel) rfl (k_170 hw) (r_170_0 hw) (by decide) ?_
  refine ms_iload_n (k := 1) (p' := 5) (by decide +kernel) rfl rfl ?_
  refine ms_bipush (n := 21) (v := 21) (p' := 7) (by decide +kernel) rfl ?_
  refine ms_imul (p' := 8) (by decide +kernel) rfl ?_
  refine ms_iload_n (k := 2) (p' := 9) (by decide +kernel) rfl rfl ?_
  refine ms_iadd (p' := 10) (by decide +kernel) rfl ?_
  refine ms_iald (p' := 11) (by decide +kernel) rfl (k_171 hw) (fun hj1 => ?_)
  refine ms_istore (k := 5) (ls' := [.inr (.inl 170), .inl x1, .inl x2, .inl x3, .inl x4, .inl (f 171 (mj_w ((mj_w (x1 * 21)) + x2)).toNat), .inr (.inr (.inr 0))]) (p' := 13) (by decide +kernel) rfl (Nat.le_of_ble_eq_true rfl) rfl ?_
  refine ms_aload_n (k := 0) (p' := 14) (by decide +kernel) rfl rfl ?_
  refine ms_getr (idx := 9) (ci := 5) (k := 0) (q := 446) (p' := 17) (by decide +kernel) rfl (k_170 hw) (r_170_0 hw) (by decide) ?_
  refine ms_iload_n (k := 2) (p' := 18) (by decide +kernel) rfl rfl ?_
  refine ms_bipush (n := 21) (v := 21) (p' := 20) (by decide +kernel) rfl ?_
  refine ms_imul (p' := 21) (by decide +kernel) rfl ?_
  refine ms_iload_n (k := 1) (p' := 22) (by decide +kernel) rfl rfl ?_
  refine ms_iadd (p' := 23) (by decide +kernel) rfl ?_
  refine ms_iald (p' := 24) (by decide +kernel) rfl (k_171 hw) (fun hj2 => ?_)
  refine ms_istore (k := 6) (ls' := [.inr (.inl 170), .inl x1, .inl x2, .inl x3, .inl x4, .inl (f 171 (mj_w ((mj_w (x1 * 21)) + x2)).toNat), .inl (f 171 (mj_w ((mj_w (x2 * 21)) + x1)).toNat)]) (p' := 26) (by decide +kernel) rfl (Nat.le_of_ble_eq_true rfl) rfl ?_
  refine ms_iload (k := 4) (p' := 28) (by decide +kernel) rfl rfl ?_
  have hd : mj_dec yT_span 28 = some (.tableswitch 63 0 2 #[28, 36, 42]) := by decide +kernel
  by_cases hs0 : x4 = 0
  · rw [if_pos hs0]
    refine ms_tabIn (t := 56) hd (by omega) (by rw [hs0]; decide +kernel) ?_
    refine ms_iload_n (k := 3) (p' := 57) (by decide +kernel) rfl rfl ?_
    refine ms_iload (k := 5) (p' := 59) (by decide +kernel) rfl rfl ?_
    refine ms_stat_i (idx := 120) (cy := yX_numberOf) (n := 1) (as := [.inl (f 171 (mj_w ((mj_w (x1 * 21)) + x2)).toNat)]) (rest := [.inl x3]) (p' := 62) (by decide +kernel) rfl rfl rfl rfl rfl (fun f3 v4 => ?_)
    refine ms_isub (p' := 63) (by decide +kernel) rfl ?_
    exact ms_iret (by decide +kernel)
  · rw [if_neg hs0]
    by_cases hs1 : x4 = 1
    · rw [if_pos hs1]
      refine ms_tabIn (t := 64) hd (by omega) (by rw [hs1]; decide +kernel) ?_
      refine ms_iload (k := 5) (p' := 66) (by decide +kernel) rfl rfl ?_
      refine ms_stat_i (idx := 123) (cy := yX_reachedOf) (n := 1) (as := [.inl (f 171 (mj_w ((mj_w (x1 * 21)) + x2)).toNat)]) (rest := []) (p' := 69) (by decide +kernel) rfl rfl rfl rfl rfl (fun f5 v6 => ?_)
      exact ms_iret (by decide +kernel)
    · rw [if_neg hs1]
      by_cases hs2 : x4 = 2
      · rw [if_pos hs2]
        refine ms_tabIn (t := 70) hd (by omega) (by rw [hs2]; decide +kernel) ?_
        refine ms_iload (k := 6) (p' := 72) (by decide +kernel) rfl rfl ?_
        refine ms_ldc (idx := 43) (v := 268435456) (p' := 74) (by decide +kernel) rfl ?_
        refine ms_icmp_lt (off := 9) (t := 83) (p' := 77) (by decide +kernel) rfl (fun hc => ?_) (fun hc => ?_)
        · refine ms_iload_n (k := 3) (p' := 84) (by decide +kernel) rfl rfl ?_
          refine ms_iload (k := 6) (p' := 86) (by decide +kernel) rfl rfl ?_
          refine ms_stat_i (idx := 120) (cy := yX_numberOf) (n := 1) (as := [.inl (f 171 (mj_w ((mj_w (x2 * 21)) + x1)).toNat)]) (rest := [.inl x3]) (p' := 89) (by decide +kernel) rfl rfl rfl rfl rfl (fun f7 v8 => ?_)
          refine ms_iadd (p' := 90) (by decide +kernel) rfl ?_
          exact ms_iret (by decide +kernel)
        · refine ms_sipush (n := 10000) (v := 10000) (p' := 80) (by decide +kernel) rfl ?_
          refine ms_goto (off := 10) (p' := 90) (by decide +kernel) ?_
          exact ms_iret (by decide +kernel)
      · rw [if_neg hs2]
        refine ms_tabOut (t := 91) hd (by omega) (by decide +kernel) ?_
        refine ms_iload (k := 6) (p' := 93) (by decide +kernel) rfl rfl ?_
        refine ms_ldc (idx := 43) (v := 268435456) (p' := 95) (by decide +kernel) rfl ?_
        refine ms_icmp_lt (off := 7) (t := 102) (p' := 98) (by decide +kernel) rfl (fun hc => ?_) (fun hc => ?_)
        · refine ms_iload (k := 6) (p' := 104) (by decide +kernel) rfl rfl ?_
          refine ms_stat_i (idx := 123) (cy := yX_reachedOf) (n := 1) (as := [.inl (f 171 (mj_w ((mj_w (x2 * 21)) + x1)).toNat)]) (rest := []) (p' := 107) (by decide +kernel) rfl rfl rfl rfl rfl (fun f9 v10 => ?_)
          exact ms_iret (by decide +kernel)
        · refine ms_iconst (n := 0) (v := 0) (p' := 99) (by decide +kernel) rfl ?_
          refine ms_goto (off := 8) (p' := 107) (by decide +kernel) ?_
          exact ms_iret (by decide +kernel)
theorem c_W_goAlong {sw : Bool} {w : mj_W} (hw : wk sw w) (f : mj_F) (p : Nat) (x2 : Int) (hp : pn p) : mj_call yW_goAlong w f [.inr (.inl 175), .inr (.inl p), .inl x2] = mj_bu (mj_call yZ_goUp w f [.inr (.inl 176)]) (fun f1 => mj_gd (0 ≤ x2 ∧ x2 < ((16 : Nat) : Int)) (mj_bi (mj_call yX_stayRules w f1 [.inl (f1 (p + 8) x2.toNat)]) (fun f3 v4 => mj_bu (mj_call yZ_keepRules w f3 [.inr (.inl 176), .inr (.inl p), .inl v4]) (fun f5 => mj_bi (mj_call yX_edgeRules w f5 [.inl x2]) (fun f6 v7 => mj_bu (mj_call yZ_keepRules w f6 [.inr (.inl 176), .inr (.inl p), .inl v7]) (fun f8 => mj_bu (mj_call yZ_applySets w f8 [.inr (.inl 176), .inr (.inl p), .inl x2]) (fun f9 => mj_gd (0 ≤ x2 ∧ x2 < ((16 : Nat) : Int)) (mj_bi (mj_call yX_stayRules w f9 [.inl (f9 (p + 9) x2.toNat)]) (fun f11 v12 => mj_bu (mj_call yZ_keepRules w f11 [.inr (.inl 176), .inr (.inl p), .inl v12]) (fun f13 => some (w, f13, none))))))))))) := by
  show mj_run yW_goAlong w f 0 [.inr (.inl 175), .inr (.inl p), .inl x2] [] = _
  refine ms_aload_n (k := 0) (p' := 1) (by decide +kernel) rfl rfl ?_
  refine ms_getr (idx := 10) (ci := 6) (k := 0) (q := 483) (p' := 4) (by decide +kernel) rfl (k_175 hw) (r_175_0 hw) (by decide) ?_
  refine ms_virt_u (idx := 46) (cy := yZ_goUp) (n := 0) (a := 176) (as := []) (rest := []) (p' := 7) (by decide +kernel) rfl rfl rfl rfl (zn_k zn176 hw) rfl (fun f1 => ?_)
  refine ms_aload_n (k := 0) (p' := 8) (by decide +kernel) rfl rfl ?_
  refine ms_getr (idx := 10) (ci := 6) (k := 0) (q := 483) (p' := 11) (by decide +kernel) rfl (k_175 hw) (r_175_0 hw) (by decide) ?_
  refine ms_aload_n (k := 1) (p' := 12) (by decide +kernel) rfl rfl ?_
  refine ms_aload_n (k := 1) (p' := 13) (by decide +kernel) rfl rfl ?_
  refine ms_getr (idx := 49) (ci := 3) (k := 13) (q := 249) (p' := 16) (by decide +kernel) rfl (pn_k hp hw) (pn_r13 hp hw) (by omega) ?_
  refine ms_iload_n (k := 2) (p' := 17) (by decide +kernel) rfl rfl ?_
  refine ms_iald (p' := 18) (by decide +kernel) rfl (pn_k13 hp hw) (fun hj2 => ?_)
  refine ms_stat_i (idx := 29) (cy := yX_stayRules) (n := 1) (as := [.inl (f1 (p + 8) x2.toNat)]) (rest := [.inr (.inl p), .inr (.inl 176)]) (p' := 21) (by decide +kernel) rfl rfl rfl rfl rfl (fun f3 v4 => ?_)
  refine ms_virt_u (idx := 35) (cy := yZ_keepRules) (n := 2) (a := 176) (as := [.inr (.inl p), .inl v4]) (rest := []) (p' := 24) (by decide +kernel) rfl rfl rfl rfl (zn_k zn176 hw) rfl (fun f5 => ?_)
  refine ms_aload_n (k := 0) (p' := 25) (by decide +kernel) rfl rfl ?_
  refine ms_getr (idx := 10) (ci := 6) (k := 0) (q := 483) (p' := 28) (by decide +kernel) rfl (k_175 hw) (r_175_0 hw) (by decide) ?_
  refine ms_aload_n (k := 1) (p' := 29) (by decide +kernel) rfl rfl ?_
  refine ms_iload_n (k := 2) (p' := 30) (by decide +kernel) rfl rfl ?_
  refine ms_stat_i (idx := 53) (cy := yX_edgeRules) (n := 1) (as := [.inl x2]) (rest := [.inr (.inl p), .inr (.inl 176)]) (p' := 33) (by decide +kernel) rfl rfl rfl rfl rfl (fun f6 v7 => ?_)
  refine ms_virt_u (idx := 35) (cy := yZ_keepRules) (n := 2) (a := 176) (as := [.inr (.inl p), .inl v7]) (rest := []) (p' := 36) (by decide +kernel) rfl rfl rfl rfl (zn_k zn176 hw) rfl (fun f8 => ?_)
  refine ms_aload_n (k := 0) (p' := 37) (by decide +kernel) rfl rfl ?_
  refine ms_getr (idx := 10) (ci := 6) (k := 0) (q := 483) (p' := 40) (by decide +kernel) rfl (k_175 hw) (r_175_0 hw) (by decide) ?_
  refine ms_aload_n (k := 1) (p' := 41) (by decide +kernel) rfl rfl ?_
  refine ms_iload_n (k := 2) (p' := 42) (by decide +kernel) rfl rfl ?_
  refine ms_virt_u (idx := 56) (cy := yZ_applySets) (n := 2) (a := 176) (as := [.inr (.inl p), .inl x2]) (rest := []) (p' := 45) (by decide +kernel) rfl rfl rfl rfl (zn_k zn176 hw) rfl (fun f9 => ?_)
  refine ms_aload_n (k := 0) (p' := 46) (by decide +kernel) rfl rfl ?_
  refine ms_getr (idx := 10) (ci := 6) (k := 0) (q := 483) (p' := 49) (by decide +kernel) rfl (k_175 hw) (r_175_0 hw) (by decide) ?_
  refine ms_aload_n (k := 1) (p' := 50) (by decide +kernel) rfl rfl ?_
  refine ms_aload_n (k := 1) (p' := 51) (by decide +kernel) rfl rfl ?_
  refine ms_getr (idx := 59) (ci := 3) (k := 14) (q := 256) (p' := 54) (by decide +kernel) rfl (pn_k hp hw) (pn_r14 hp hw) (by omega) ?_
  refine ms_iload_n (k := 2) (p' := 55) (by decide +kernel) rfl rfl ?_
  refine ms_iald (p' := 56) (by decide +kernel) rfl (pn_k14 hp hw) (fun hj10 => ?_)
  refine ms_stat_i (idx := 29) (cy := yX_stayRules) (n := 1) (as := [.inl (f9 (p + 9) x2.toNat)]) (rest := [.inr (.inl p), .inr (.inl 176)]) (p' := 59) (by decide +kernel) rfl rfl rfl rfl rfl (fun f11 v12 => ?_)
  refine ms_virt_u (idx := 35) (cy := yZ_keepRules) (n := 2) (a := 176) (as := [.inr (.inl p), .inl v12]) (rest := []) (p' := 62) (by decide +kernel) rfl rfl rfl rfl (zn_k zn176 hw) rfl (fun f13 => ?_)
  exact ms_vret (by decide +kernel)
theorem c_W_breakIn {sw : Bool} {w : mj_W} (hw : wk sw w) (f : mj_F) (p : Nat) (r2 nr2 : Nat) (x3 : Int) (hp : pn p) (hr2 : w.1 r2 = (100, nr2)) : mj_call yW_breakIn w f [.inr (.inl 175), .inr (.inl p), .inr (.inl r2), .inl x3] = mj_bu (mj_call yZ_layZero w f [.inr (.inl 176), .inl (mj_w ((f p 1) + 2))]) (fun f1 => mj_bi (mj_call yX_stayRules w f1 [.inl (f1 p 4)]) (fun f2 v3 => mj_bu (mj_call yZ_keepRules w f2 [.inr (.inl 176), .inr (.inl p), .inl v3]) (fun f4 => if (f4 176 2) = 0 then mj_run yW_breakIn w f4 52 [.inr (.inl 175), .inr (.inl p), .inr (.inl r2), .inl x3, .inl 0] [] else if ¬ x3 = 0 then some (w, f4, some (.inl 0)) else some (w, f4, some (.inl (-3)))))) := by
  show mj_run yW_breakIn w f 0 [.inr (.inl 175), .inr (.inl p), .inr (.inl r2), .inl x3, .inr (.inr (.inr 0))] [] = _
  refine ms_aload_n (k := 0) (p' := 1) (by decide +kernel) rfl rfl ?_
  refine ms_getr (idx := 10) (ci := 6) (k := 0) (q := 483) (p' := 4) (by decide +kernel) rfl (k_175 hw) (r_175_0 hw) (by decide) ?_
  refine ms_aload_n (k := 1) (p' := 5) (by decide +kernel) rfl rfl ?_
  refine ms_geti (idx := 16) (ci := 3) (k := 1) (q := 203) (p' := 8) (by decide +kernel) rfl (pn_k hp hw) ?_
  refine ms_iconst (n := 2) (v := 2) (p' := 9) (by decide +kernel) rfl ?_
  refine ms_iadd (p' := 10) (by decide +kernel) rfl ?_
  refine ms_virt_u (idx := 22) (cy := yZ_layZero) (n := 1) (a := 176) (as := [.inl (mj_w ((f p 1) + 2))]) (rest := []) (p' := 13) (by decide +kernel) rfl rfl rfl rfl (zn_k zn176 hw) rfl (fun f1 => ?_)
  refine ms_aload_n (k := 0) (p' := 14) (by decide +kernel) rfl rfl ?_
  refine ms_getr (idx := 10) (ci := 6) (k := 0) (q := 483) (p' := 17) (by decide +kernel) rfl (k_175 hw) (r_175_0 hw) (by decide) ?_
  refine ms_aload_n (k := 1) (p' := 18) (by decide +kernel) rfl rfl ?_
  refine ms_aload_n (k := 1) (p' := 19) (by decide +kernel) rfl rfl ?_
  refine ms_geti (idx := 26) (ci := 3) (k := 4) (q := 216) (p' := 22) (by decide +kernel) rfl (pn_k hp hw) ?_
  refine ms_stat_i (idx := 29) (cy := yX_stayRules) (n := 1) (as := [.inl (f1 p 4)]) (rest := [.inr (.inl p), .inr (.inl 176)]) (p' := 25) (by decide +kernel) rfl rfl rfl rfl rfl (fun f2 v3 => ?_)
  refine ms_virt_u (idx := 35) (cy := yZ_keepRules) (n := 2) (a := 176) (as := [.inr (.inl p), .inl v3]) (rest := []) (p' := 28) (by decide +kernel) rfl rfl rfl rfl (zn_k zn176 hw) rfl (fun f4 => ?_)
  refine ms_aload_n (k := 0) (p' := 29) (by decide +kernel) rfl rfl ?_
  refine ms_getr (idx := 10) (ci := 6) (k := 0) (q := 483) (p' := 32) (by decide +kernel) rfl (k_175 hw) (r_175_0 hw) (by decide) ?_
  refine ms_geti (idx := 39) (ci := 7) (k := 2) (q := 363) (p' := 35) (by decide +kernel) rfl (zn_k zn176 hw) ?_
  refine ms_if_eq (off := 14) (t := 49) (p' := 38) (by decide +kernel) rfl (fun hc => ?_) (fun hc => ?_)
  · refine ms_iconst (n := 0) (v := 0) (p' := 50) (by decide +kernel) rfl ?_
    refine ms_istore (k := 4) (ls' := [.inr (.inl 175), .inr (.inl p), .inr (.inl r2), .inl x3, .inl 0]) (p' := 52) (by decide +kernel) rfl (Nat.le_of_ble_eq_true rfl) rfl ?_
    rfl
  · refine ms_iload_n (k := 3) (p' := 39) (by decide +kernel) rfl rfl ?_
    refine ms_if_ne (off := 8) (t := 47) (p' := 42) (by decide +kernel) rfl (fun hc => ?_) (fun hc => ?_)
    · refine ms_iconst (n := 0) (v := 0) (p' := 48) (by decide +kernel) rfl ?_
      exact ms_iret (by decide +kernel)
    · refine ms_bipush (n := (-3)) (v := (-3)) (p' := 44) (by decide +kernel) rfl ?_
      refine ms_goto (off := 4) (p' := 48) (by decide +kernel) ?_
      exact ms_iret (by decide +kernel)
theorem l_W_breakIn_52 {sw : Bool} {w : mj_W} (hw : wk sw w) (f : mj_F) (p : Nat) (r2 nr2 : Nat) (x3 : Int) (x4 : Int) (hp : pn p) (hr2 : w.1 r2 = (100, nr2)) : mj_run yW_breakIn w f 52 [.inr (.inl 175), .inr (.inl p), .inr (.inl r2), .inl x3, .inl x4] [] = if x3 ≤ x4 then some (w, f, some (.inl (-2))) else mj_gd (0 ≤ x4 ∧ x4 < ((nr2 : Nat) : Int)) (mj_bu (mj_call yW_goAlong w f [.inr (.inl 175), .inr (.inl p), .inl (f r2 x4.toNat)]) (fun f6 => if (f6 176 2) = 0 then mj_run yW_breakIn w f6 52 [.inr (.inl 175), .inr (.inl p), .inr (.inl r2), .inl x3, .inl (mj_w (x4 + 1))] [] else some (w, f6, some (.inl x4)))) := by
  refine ms_iload (k := 4) (p' := 54) (by decide +kernel) rfl rfl ?_
  refine ms_iload_n (k := 3) (p' := 55) (by decide +kernel) rfl rfl ?_
  refine ms_icmp_ge (off := 31) (t := 86) (p' := 58) (by decide +kernel) rfl (fun hc => ?_) (fun hc => ?_)
  · refine ms_bipush (n := (-2)) (v := (-2)) (p' := 88) (by decide +kernel) rfl ?_
    exact ms_iret (by decide +kernel)
  · refine ms_aload_n (k := 0) (p' := 59) (by decide +kernel) rfl rfl ?_
    refine ms_aload_n (k := 1) (p' := 60) (by decide +kernel) rfl rfl ?_
    refine ms_aload_n (k := 2) (p' := 61) (by decide +kernel) rfl rfl ?_
    refine ms_iload (k := 4) (p' := 63) (by decide +kernel) rfl rfl ?_
    refine ms_iald (p' := 64) (by decide +kernel) rfl hr2 (fun hj5 => ?_)
    refine ms_virt_u (idx := 43) (cy := yW_goAlong) (n := 2) (a := 175) (as := [.inr (.inl p), .inl (f r2 x4.toNat)]) (rest := []) (p' := 67) (by decide +kernel) rfl rfl rfl rfl (k_175 hw) rfl (fun f6 => ?_)
    refine ms_aload_n (k := 0) (p' := 68) (by decide +kernel) rfl rfl ?_
    refine ms_getr (idx := 10) (ci := 6) (k := 0) (q := 483) (p' := 71) (by decide +kernel) rfl (k_175 hw) (r_175_0 hw) (by decide) ?_
    refine ms_geti (idx := 39) (ci := 7) (k := 2) (q := 363) (p' := 74) (by decide +kernel) rfl (zn_k zn176 hw) ?_
    refine ms_if_eq (off := 6) (t := 80) (p' := 77) (by decide +kernel) rfl (fun hc => ?_) (fun hc => ?_)
    · refine ms_iinc (k := 4) (n := 1) (ls' := [.inr (.inl 175), .inr (.inl p), .inr (.inl r2), .inl x3, .inl (mj_w (x4 + 1))]) (p' := 83) (by decide +kernel) rfl rfl rfl ?_
      refine ms_goto (off := (-31)) (p' := 52) (by decide +kernel) ?_
      rfl
    · refine ms_iload (k := 4) (p' := 79) (by decide +kernel) rfl rfl ?_
      exact ms_iret (by decide +kernel)
theorem c_T_buildWhole {sw : Bool} {w : mj_W} (hw : wk sw w) (f : mj_F)   : mj_call yT_buildWhole w f [.inr (.inl 170), .inr (.inl 168)] = mj_run yT_buildWhole w f 2 [.inr (.inl 170), .inr (.inl 168), .inl 0] [] := by
  show mj_run yT_buildWhole w f 0 [.inr (.inl 170), .inr (.inl 168), .inr (.inr (.inr 0))] [] = _
  refine ms_iconst (n := 0) (v := 0) (p' := 1) (by decide +kernel) rfl ?_
  refine ms_istore_n (k := 2) (ls' := [.inr (.inl 170), .inr (.inl 168), .inl 0]) (p' := 2) (by decide +kernel) rfl (Nat.le_of_ble_eq_true rfl) rfl ?_
  rfl
theorem l_T_buildWhole_2 {sw : Bool} {w : mj_W} (hw : wk sw w) (f : mj_F) (x2 : Int)  : mj_run yT_buildWhole w f 2 [.inr (.inl 170), .inr (.inl 168), .inl x2] [] = if ((441 : Nat) : Int) ≤ x2 then if (f 170 6) = 0 then some (w, (mj_u (mj_u f 170 7 0) 170 5 0), none) else mj_bi (mj_call yX_closeCells w f [.inr (.inl 172), .inl 21, .inl (mj_w ((f 168 1) + 1))]) (fun f1 v2 => if v2 = 0 then some (w, (mj_u (mj_u f1 170 7 0) 170 5 0), none) else some (w, (mj_u (mj_u f1 170 7 1) 170 5 0), none)) else mj_gd (0 ≤ x2 ∧ x2 < ((441 : Nat) : Int)) (mj_bi (mj_call yX_wholeBound w f [.inl (f 171 x2.toNat)]) (fun f4 v5 => mj_gd (0 ≤ x2 ∧ x2 < ((441 : Nat) : Int)) (mj_run yT_buildWhole w (mj_u f4 172 x2.toNat v5) 2 [.inr (.inl 170), .inr (.inl 168), .inl (mj_w (x2 + 1))] []))) := by
  refine ms_iload_n (k := 2) (p' := 3) (by decide +kernel) rfl rfl ?_
  refine ms_aload_n (k := 0) (p' := 4) (by decide +kernel) rfl rfl ?_
  refine ms_getr (idx := 9) (ci := 5) (k := 0) (q := 446) (p' := 7) (by decide +kernel) rfl (k_170 hw) (r_170_0 hw) (by decide) ?_
  refine ms_alen (p' := 8) (by decide +kernel) rfl (k_171 hw) (by decide) ?_
  refine ms_icmp_ge (off := 24) (t := 32) (p' := 11) (by decide +kernel) rfl (fun hc => ?_) (fun hc => ?_)
  · refine ms_aload_n (k := 0) (p' := 33) (by decide +kernel) rfl rfl ?_
    refine ms_aload_n (k := 0) (p' := 34) (by decide +kernel) rfl rfl ?_
    refine ms_geti (idx := 31) (ci := 5) (k := 6) (q := 454) (p' := 37) (by decide +kernel) rfl (k_170 hw) ?_
    refine ms_if_eq (off := 25) (t := 62) (p' := 40) (by decide +kernel) rfl (fun hc => ?_) (fun hc => ?_)
    · refine ms_iconst (n := 0) (v := 0) (p' := 63) (by decide +kernel) rfl ?_
      refine Eq.trans (ms_putz (idx := 34) (ci := 5) (k := 7) (q := 456) (p' := 66) (by decide +kernel) rfl (k_170 hw) (fun _ => ?_)) (mj_gd_pos (by decide) _)
      refine ms_aload_n (k := 0) (p' := 67) (by decide +kernel) rfl rfl ?_
      refine ms_iconst (n := 0) (v := 0) (p' := 68) (by decide +kernel) rfl ?_
      refine Eq.trans (ms_putz (idx := 28) (ci := 5) (k := 5) (q := 452) (p' := 71) (by decide +kernel) rfl (k_170 hw) (fun _ => ?_)) (mj_gd_pos (by decide) _)
      exact ms_vret (by decide +kernel)
    · refine ms_aload_n (k := 0) (p' := 41) (by decide +kernel) rfl rfl ?_
      refine ms_getr (idx := 15) (ci := 5) (k := 1) (q := 447) (p' := 44) (by decide +kernel) rfl (k_170 hw) (r_170_1 hw) (by decide) ?_
      refine ms_bipush (n := 21) (v := 21) (p' := 46) (by decide +kernel) rfl ?_
      refine ms_aload_n (k := 1) (p' := 47) (by decide +kernel) rfl rfl ?_
      refine ms_geti (idx := 37) (ci := 2) (k := 1) (q := 432) (p' := 50) (by decide +kernel) rfl (k_168 hw) ?_
      refine ms_iconst (n := 1) (v := 1) (p' := 51) (by decide +kernel) rfl ?_
      refine ms_iadd (p' := 52) (by decide +kernel) rfl ?_
      refine ms_stat_i (idx := 73) (cy := yX_closeCells) (n := 3) (as := [.inr (.inl 172), .inl 21, .inl (mj_w ((f 168 1) + 1))]) (rest := [.inr (.inl 170)]) (p' := 55) (by decide +kernel) rfl rfl rfl rfl rfl (fun f1 v2 => ?_)
      refine ms_if_eq (off := 7) (t := 62) (p' := 58) (by decide +kernel) rfl (fun hc => ?_) (fun hc => ?_)
      · refine ms_iconst (n := 0) (v := 0) (p' := 63) (by decide +kernel) rfl ?_
        refine Eq.trans (ms_putz (idx := 34) (ci := 5) (k := 7) (q := 456) (p' := 66) (by decide +kernel) rfl (k_170 hw) (fun _ => ?_)) (mj_gd_pos (by decide) _)
        refine ms_aload_n (k := 0) (p' := 67) (by decide +kernel) rfl rfl ?_
        refine ms_iconst (n := 0) (v := 0) (p' := 68) (by decide +kernel) rfl ?_
        refine Eq.trans (ms_putz (idx := 28) (ci := 5) (k := 5) (q := 452) (p' := 71) (by decide +kernel) rfl (k_170 hw) (fun _ => ?_)) (mj_gd_pos (by decide) _)
        exact ms_vret (by decide +kernel)
      · refine ms_iconst (n := 1) (v := 1) (p' := 59) (by decide +kernel) rfl ?_
        refine ms_goto (off := 4) (p' := 63) (by decide +kernel) ?_
        refine Eq.trans (ms_putz (idx := 34) (ci := 5) (k := 7) (q := 456) (p' := 66) (by decide +kernel) rfl (k_170 hw) (fun _ => ?_)) (mj_gd_pos (by decide) _)
        refine ms_aload_n (k := 0) (p' := 67) (by decide +kernel) rfl rfl ?_
        refine ms_iconst (n := 0) (v := 0) (p' := 68) (by decide +kernel) rfl ?_
        refine Eq.trans (ms_putz (idx := 28) (ci := 5) (k := 5) (q := 452) (p' := 71) (by decide +kernel) rfl (k_170 hw) (fun _ => ?_)) (mj_gd_pos (by decide) _)
        exact ms_vret (by decide +kernel)
  · refine ms_aload_n (k := 0) (p' := 12) (by decide +kernel) rfl rfl ?_
    refine ms_getr (idx := 15) (ci := 5) (k := 1) (q := 447) (p' := 15) (by decide +kernel) rfl (k_170 hw) (r_170_1 hw) (by decide) ?_
    refine ms_iload_n (k := 2) (p' := 16) (by decide +kernel) rfl rfl ?_
    refine ms_aload_n (k := 0) (p' := 17) (by decide +kernel) rfl rfl ?_
    refine ms_getr (idx := 9) (ci := 5) (k := 0) (q := 446) (p' := 20) (by decide +kernel) rfl (k_170 hw) (r_170_0 hw) (by decide) ?_
    refine ms_iload_n (k := 2) (p' := 21) (by decide +kernel) rfl rfl ?_
    refine ms_iald (p' := 22) (by decide +kernel) rfl (k_171 hw) (fun hj3 => ?_)
    refine ms_stat_i (idx := 77) (cy := yX_wholeBound) (n := 1) (as := [.inl (f 171 x2.toNat)]) (rest := [.inl x2, .inr (.inl 172)]) (p' := 25) (by decide +kernel) rfl rfl rfl rfl rfl (fun f4 v5 => ?_)
    refine ms_iast (p' := 26) (by decide +kernel) rfl (k_172 hw) (fun hj6 => ?_)
    refine ms_iinc (k := 2) (n := 1) (ls' := [.inr (.inl 170), .inr (.inl 168), .inl (mj_w (x2 + 1))]) (p' := 29) (by decide +kernel) rfl rfl rfl ?_
    refine ms_goto (off := (-27)) (p' := 2) (by decide +kernel) ?_
    rfl
theorem c_T_leastWhole {sw : Bool} {w : mj_W} (hw : wk sw w) (f : mj_F) (x1 : Int)  : mj_call yT_leastWhole w f [.inr (.inl 170), .inl x1] = mj_gd (0 ≤ x1 ∧ x1 < ((441 : Nat) : Int)) (mj_bi (mj_call yX_numberOf w f [.inl (f 172 x1.toNat)]) (fun f2 v3 => some (w, f2, some (.inl (mj_w (-v3)))))) := by
  show mj_run yT_leastWhole w f 0 [.inr (.inl 170), .inl x1] [] = _
  refine ms_aload_n (k := 0) (p' := 1) (by decide +kernel) rfl rfl ?_
  refine ms_getr (idx := 15) (ci := 5) (k := 1) (q := 447) (p' := 4) (by decide +kernel) rfl (k_170 hw) (r_170_1 hw) (by decide) ?_
  refine ms_iload_n (k := 1) (p' := 5) (by decide +kernel) rfl rfl ?_
  refine ms_iald (p' := 6) (by decide +kernel) rfl (k_172 hw) (fun hj1 => ?_)
  refine ms_stat_i (idx := 120) (cy := yX_numberOf) (n := 1) (as := [.inl (f 172 x1.toNat)]) (rest := []) (p' := 9) (by decide +kernel) rfl rfl rfl rfl rfl (fun f2 v3 => ?_)
  refine ms_ineg (p' := 10) (by decide +kernel) rfl ?_
  exact ms_iret (by decide +kernel)
