/-! The constructors, in the order of their calls. -/
theorem ci_L5 (L : Nat) (f : mj_F) : ∃ f' : mj_F, mj_call yL_init (wCn L 6 939 [(5, 0), (3, 1), (2, 0)]) f [.inr (.inl 5)] = some (wCn L 18 1587 [(3, 1), (2, 0)], f', none) ∧ (∀ a q, a < 6 → f' a q = f a q) := by
  refine ⟨mj_z (mj_z (mj_z (mj_z (mj_z (mj_z (mj_z (mj_z (mj_z (mj_z (mj_z (mj_z (f) 6) 7) 8) 9) 10) 11) 12) 13) 14) 15) 16) 17, ?_, fun a q h => ?_⟩
  · show mj_run yL_init (wCn L 6 939 [(5, 0), (3, 1), (2, 0)]) f 0 [.inr (.inl 5)] [] = _
    refine ms_aload_n (k := 0) (p' := 1) (by decide +kernel) rfl rfl ?_
    refine mc_obj (idx := 3) (x := 0) (q := 199) (p' := 4) (by decide +kernel) rfl rfl ?_
    refine ms_aload_n (k := 0) (p' := 5) (by decide +kernel) rfl rfl ?_
    refine ms_iconst (n := 4) (v := 4) (p' := 6) (by decide +kernel) rfl ?_
    refine mc_newa (at_ := .int) (kd := 100) (m := 4) (l' := [(5, 0), (3, 1), (2, 0)]) (p' := 8) ⟨by decide +kernel, Or.inl ⟨rfl, rfl⟩, by decide +kernel, by decide +kernel, by decide⟩ ⟨rfl, by decide⟩ (okN_of (by decide +kernel)) rfl ?_
    refine mc_putr (idx := 9) (ci := 3) (k := 6) (q := 224) (l' := [(5, 7), (3, 1), (2, 0)]) (p' := 11) (by decide +kernel) ⟨by decide +kernel, by decide +kernel⟩ (by decide) (okU_of (by decide +kernel)) rfl ?_
    refine ms_aload_n (k := 0) (p' := 12) (by decide +kernel) rfl rfl ?_
    refine ms_bipush (n := 8) (v := 8) (p' := 14) (by decide +kernel) rfl ?_
    refine mc_newa (at_ := .int) (kd := 100) (m := 8) (l' := [(5, 7), (3, 1), (2, 0)]) (p' := 16) ⟨by decide +kernel, Or.inl ⟨rfl, rfl⟩, by decide +kernel, by decide +kernel, by decide⟩ ⟨rfl, by decide⟩ (okN_of (by decide +kernel)) rfl ?_
    refine mc_putr (idx := 15) (ci := 3) (k := 7) (q := 226) (l' := [(5, 8), (3, 1), (2, 0)]) (p' := 19) (by decide +kernel) ⟨by decide +kernel, by decide +kernel⟩ (by decide) (okU_of (by decide +kernel)) rfl ?_
    refine ms_aload_n (k := 0) (p' := 20) (by decide +kernel) rfl rfl ?_
    refine ms_iconst (n := 4) (v := 4) (p' := 21) (by decide +kernel) rfl ?_
    refine mc_newa (at_ := .int) (kd := 100) (m := 4) (l' := [(5, 8), (3, 1), (2, 0)]) (p' := 23) ⟨by decide +kernel, Or.inl ⟨rfl, rfl⟩, by decide +kernel, by decide +kernel, by decide⟩ ⟨rfl, by decide⟩ (okN_of (by decide +kernel)) rfl ?_
    refine mc_putr (idx := 18) (ci := 3) (k := 8) (q := 228) (l' := [(5, 9), (3, 1), (2, 0)]) (p' := 26) (by decide +kernel) ⟨by decide +kernel, by decide +kernel⟩ (by decide) (okU_of (by decide +kernel)) rfl ?_
    refine ms_aload_n (k := 0) (p' := 27) (by decide +kernel) rfl rfl ?_
    refine ms_bipush (n := 24) (v := 24) (p' := 29) (by decide +kernel) rfl ?_
    refine mc_newa (at_ := .int) (kd := 100) (m := 24) (l' := [(5, 9), (3, 1), (2, 0)]) (p' := 31) ⟨by decide +kernel, Or.inl ⟨rfl, rfl⟩, by decide +kernel, by decide +kernel, by decide⟩ ⟨rfl, by decide⟩ (okN_of (by decide +kernel)) rfl ?_
    refine mc_putr (idx := 21) (ci := 3) (k := 9) (q := 231) (l' := [(5, 10), (3, 1), (2, 0)]) (p' := 34) (by decide +kernel) ⟨by decide +kernel, by decide +kernel⟩ (by decide) (okU_of (by decide +kernel)) rfl ?_
    refine ms_aload_n (k := 0) (p' := 35) (by decide +kernel) rfl rfl ?_
    refine ms_sipush (n := 144) (v := 144) (p' := 38) (by decide +kernel) rfl ?_
    refine mc_newa (at_ := .int) (kd := 100) (m := 144) (l' := [(5, 10), (3, 1), (2, 0)]) (p' := 40) ⟨by decide +kernel, Or.inl ⟨rfl, rfl⟩, by decide +kernel, by decide +kernel, by decide⟩ ⟨rfl, by decide⟩ (okN_of (by decide +kernel)) rfl ?_
    refine mc_putr (idx := 24) (ci := 3) (k := 10) (q := 235) (l' := [(5, 11), (3, 1), (2, 0)]) (p' := 43) (by decide +kernel) ⟨by decide +kernel, by decide +kernel⟩ (by decide) (okU_of (by decide +kernel)) rfl ?_
    refine ms_aload_n (k := 0) (p' := 44) (by decide +kernel) rfl rfl ?_
    refine ms_sipush (n := 144) (v := 144) (p' := 47) (by decide +kernel) rfl ?_
    refine mc_newa (at_ := .int) (kd := 100) (m := 144) (l' := [(5, 11), (3, 1), (2, 0)]) (p' := 49) ⟨by decide +kernel, Or.inl ⟨rfl, rfl⟩, by decide +kernel, by decide +kernel, by decide⟩ ⟨rfl, by decide⟩ (okN_of (by decide +kernel)) rfl ?_
    refine mc_putr (idx := 27) (ci := 3) (k := 11) (q := 239) (l' := [(5, 12), (3, 1), (2, 0)]) (p' := 52) (by decide +kernel) ⟨by decide +kernel, by decide +kernel⟩ (by decide) (okU_of (by decide +kernel)) rfl ?_
    refine ms_aload_n (k := 0) (p' := 53) (by decide +kernel) rfl rfl ?_
    refine ms_sipush (n := 144) (v := 144) (p' := 56) (by decide +kernel) rfl ?_
    refine mc_newa (at_ := .int) (kd := 100) (m := 144) (l' := [(5, 12), (3, 1), (2, 0)]) (p' := 58) ⟨by decide +kernel, Or.inl ⟨rfl, rfl⟩, by decide +kernel, by decide +kernel, by decide⟩ ⟨rfl, by decide⟩ (okN_of (by decide +kernel)) rfl ?_
    refine mc_putr (idx := 30) (ci := 3) (k := 12) (q := 243) (l' := [(5, 13), (3, 1), (2, 0)]) (p' := 61) (by decide +kernel) ⟨by decide +kernel, by decide +kernel⟩ (by decide) (okU_of (by decide +kernel)) rfl ?_
    refine ms_aload_n (k := 0) (p' := 62) (by decide +kernel) rfl rfl ?_
    refine ms_bipush (n := 16) (v := 16) (p' := 64) (by decide +kernel) rfl ?_
    refine mc_newa (at_ := .int) (kd := 100) (m := 16) (l' := [(5, 13), (3, 1), (2, 0)]) (p' := 66) ⟨by decide +kernel, Or.inl ⟨rfl, rfl⟩, by decide +kernel, by decide +kernel, by decide⟩ ⟨rfl, by decide⟩ (okN_of (by decide +kernel)) rfl ?_
    refine mc_putr (idx := 33) (ci := 3) (k := 13) (q := 247) (l' := [(5, 14), (3, 1), (2, 0)]) (p' := 69) (by decide +kernel) ⟨by decide +kernel, by decide +kernel⟩ (by decide) (okU_of (by decide +kernel)) rfl ?_
    refine ms_aload_n (k := 0) (p' := 70) (by decide +kernel) rfl rfl ?_
    refine ms_bipush (n := 16) (v := 16) (p' := 72) (by decide +kernel) rfl ?_
    refine mc_newa (at_ := .int) (kd := 100) (m := 16) (l' := [(5, 14), (3, 1), (2, 0)]) (p' := 74) ⟨by decide +kernel, Or.inl ⟨rfl, rfl⟩, by decide +kernel, by decide +kernel, by decide⟩ ⟨rfl, by decide⟩ (okN_of (by decide +kernel)) rfl ?_
    refine mc_putr (idx := 36) (ci := 3) (k := 14) (q := 253) (l' := [(5, 15), (3, 1), (2, 0)]) (p' := 77) (by decide +kernel) ⟨by decide +kernel, by decide +kernel⟩ (by decide) (okU_of (by decide +kernel)) rfl ?_
    refine ms_aload_n (k := 0) (p' := 78) (by decide +kernel) rfl rfl ?_
    refine ms_bipush (n := 16) (v := 16) (p' := 80) (by decide +kernel) rfl ?_
    refine mc_newa (at_ := .int) (kd := 100) (m := 16) (l' := [(5, 15), (3, 1), (2, 0)]) (p' := 82) ⟨by decide +kernel, Or.inl ⟨rfl, rfl⟩, by decide +kernel, by decide +kernel, by decide⟩ ⟨rfl, by decide⟩ (okN_of (by decide +kernel)) rfl ?_
    refine mc_putr (idx := 39) (ci := 3) (k := 15) (q := 261) (l' := [(5, 16), (3, 1), (2, 0)]) (p' := 85) (by decide +kernel) ⟨by decide +kernel, by decide +kernel⟩ (by decide) (okU_of (by decide +kernel)) rfl ?_
    refine ms_aload_n (k := 0) (p' := 86) (by decide +kernel) rfl rfl ?_
    refine ms_bipush (n := 64) (v := 64) (p' := 88) (by decide +kernel) rfl ?_
    refine mc_newa (at_ := .int) (kd := 100) (m := 64) (l' := [(5, 16), (3, 1), (2, 0)]) (p' := 90) ⟨by decide +kernel, Or.inl ⟨rfl, rfl⟩, by decide +kernel, by decide +kernel, by decide⟩ ⟨rfl, by decide⟩ (okN_of (by decide +kernel)) rfl ?_
    refine mc_putr (idx := 42) (ci := 3) (k := 16) (q := 265) (l' := [(5, 17), (3, 1), (2, 0)]) (p' := 93) (by decide +kernel) ⟨by decide +kernel, by decide +kernel⟩ (by decide) (okU_of (by decide +kernel)) rfl ?_
    refine ms_aload_n (k := 0) (p' := 94) (by decide +kernel) rfl rfl ?_
    refine ms_bipush (n := 64) (v := 64) (p' := 96) (by decide +kernel) rfl ?_
    refine mc_newa (at_ := .int) (kd := 100) (m := 64) (l' := [(5, 17), (3, 1), (2, 0)]) (p' := 98) ⟨by decide +kernel, Or.inl ⟨rfl, rfl⟩, by decide +kernel, by decide +kernel, by decide⟩ ⟨rfl, by decide⟩ (okN_of (by decide +kernel)) rfl ?_
    refine mc_putr (idx := 45) (ci := 3) (k := 17) (q := 269) (l' := [(3, 1), (2, 0)]) (p' := 101) (by decide +kernel) ⟨by decide +kernel, by decide +kernel⟩ (by decide) (okU_of (by decide +kernel)) rfl ?_
    exact ms_vret (by decide +kernel)
  · rw [z_o (by omega), z_o (by omega), z_o (by omega), z_o (by omega), z_o (by omega), z_o (by omega), z_o (by omega), z_o (by omega), z_o (by omega), z_o (by omega), z_o (by omega), z_o (by omega)]
theorem ci_R (L : Nat) (f : mj_F) : ∃ f' : mj_F, mj_call yR_init (wCn L 4 21 [(3, 0), (2, 0)]) f [.inr (.inl 3)] = some (wCn L 18 1587 [(2, 0)], f', none) ∧ (∀ a q, a < 3 → f' a q = f a q) ∧ f' 3 1 = 0 ∧ f' 3 8 = 0 ∧ f' 3 9 = (-1) := by
  obtain ⟨g1, eg1, frg1⟩ := ci_L5 L (mj_z (mj_u (mj_z (f) 4) 3 1 0) 5)
  refine ⟨mj_u (mj_u (mj_u (mj_u (mj_u (mj_u (mj_u (g1) 3 3 0) 3 4 0) 3 5 0) 3 6 0) 3 7 0) 3 8 0) 3 9 (-1), ?_, fun a q h => ?_, ?_, ?_, ?_⟩
  · show mj_run yR_init (wCn L 4 21 [(3, 0), (2, 0)]) f 0 [.inr (.inl 3)] [] = _
    refine ms_aload_n (k := 0) (p' := 1) (by decide +kernel) rfl rfl ?_
    refine mc_obj (idx := 3) (x := 0) (q := 193) (p' := 4) (by decide +kernel) rfl rfl ?_
    refine ms_aload_n (k := 0) (p' := 5) (by decide +kernel) rfl rfl ?_
    refine ms_sipush (n := 900) (v := 900) (p' := 8) (by decide +kernel) rfl ?_
    refine mc_newa (at_ := .byte) (kd := 101) (m := 900) (l' := [(3, 0), (2, 0)]) (p' := 10) ⟨by decide +kernel, Or.inr (Or.inl ⟨rfl, rfl⟩), by decide +kernel, by decide +kernel, by decide⟩ ⟨rfl, by decide⟩ (okN_of (by decide +kernel)) rfl ?_
    refine mc_putr (idx := 9) (ci := 4) (k := 0) (q := 312) (l' := [(3, 1), (2, 0)]) (p' := 13) (by decide +kernel) ⟨by decide +kernel, by decide +kernel⟩ (by decide) (okU_of (by decide +kernel)) rfl ?_
    refine ms_aload_n (k := 0) (p' := 14) (by decide +kernel) rfl rfl ?_
    refine ms_iconst (n := 0) (v := 0) (p' := 15) (by decide +kernel) rfl ?_
    refine ms_puti (idx := 15) (ci := 4) (k := 1) (q := 313) (p' := 18) (by decide +kernel) rfl ((wCn_k (by decide) (by decide)).trans (by decide +kernel)) ?_
    refine ms_aload_n (k := 0) (p' := 19) (by decide +kernel) rfl rfl ?_
    refine mc_new (idx := 19) (ci := 3) (q := 194) (z := 18) (l' := [(5, 0), (3, 1), (2, 0)]) (p' := 22) ⟨⟨by decide +kernel, by decide +kernel⟩, ⟨by decide, by decide +kernel, by decide +kernel⟩, by decide +kernel, by decide⟩ (okN_of (by decide +kernel)) rfl ?_
    refine ms_dup_a (p' := 23) (by decide +kernel) rfl ?_
    refine mc_ctor (idx := 21) (cy := yL_init) (kd := 5) (q := 196) (p' := 26) ⟨by decide +kernel, by decide +kernel, by decide, by decide +kernel, by decide +kernel, by decide +kernel⟩ ((wCn_k (by decide) (by decide)).trans (by decide +kernel)) rfl rfl eg1 ?_
    refine mc_putr (idx := 22) (ci := 4) (k := 2) (q := 315) (l' := [(2, 0)]) (p' := 29) (by decide +kernel) ⟨by decide +kernel, by decide +kernel⟩ (by decide) (okU_of (by decide +kernel)) rfl ?_
    refine ms_aload_n (k := 0) (p' := 30) (by decide +kernel) rfl rfl ?_
    refine ms_iconst (n := 0) (v := 0) (p' := 31) (by decide +kernel) rfl ?_
    refine ms_puti (idx := 26) (ci := 4) (k := 3) (q := 317) (p' := 34) (by decide +kernel) rfl ((wCn_k (by decide) (by decide)).trans (by decide +kernel)) ?_
    refine ms_aload_n (k := 0) (p' := 35) (by decide +kernel) rfl rfl ?_
    refine ms_iconst (n := 0) (v := 0) (p' := 36) (by decide +kernel) rfl ?_
    refine ms_puti (idx := 29) (ci := 4) (k := 4) (q := 318) (p' := 39) (by decide +kernel) rfl ((wCn_k (by decide) (by decide)).trans (by decide +kernel)) ?_
    refine ms_aload_n (k := 0) (p' := 40) (by decide +kernel) rfl rfl ?_
    refine ms_iconst (n := 0) (v := 0) (p' := 41) (by decide +kernel) rfl ?_
    refine ms_puti (idx := 32) (ci := 4) (k := 5) (q := 319) (p' := 44) (by decide +kernel) rfl ((wCn_k (by decide) (by decide)).trans (by decide +kernel)) ?_
    refine ms_aload_n (k := 0) (p' := 45) (by decide +kernel) rfl rfl ?_
    refine ms_iconst (n := 0) (v := 0) (p' := 46) (by decide +kernel) rfl ?_
    refine ms_puti (idx := 35) (ci := 4) (k := 6) (q := 320) (p' := 49) (by decide +kernel) rfl ((wCn_k (by decide) (by decide)).trans (by decide +kernel)) ?_
    refine ms_aload_n (k := 0) (p' := 50) (by decide +kernel) rfl rfl ?_
    refine ms_iconst (n := 0) (v := 0) (p' := 51) (by decide +kernel) rfl ?_
    refine ms_puti (idx := 38) (ci := 4) (k := 7) (q := 321) (p' := 54) (by decide +kernel) rfl ((wCn_k (by decide) (by decide)).trans (by decide +kernel)) ?_
    refine ms_aload_n (k := 0) (p' := 55) (by decide +kernel) rfl rfl ?_
    refine ms_iconst (n := 0) (v := 0) (p' := 56) (by decide +kernel) rfl ?_
    refine ms_puti (idx := 41) (ci := 4) (k := 8) (q := 322) (p' := 59) (by decide +kernel) rfl ((wCn_k (by decide) (by decide)).trans (by decide +kernel)) ?_
    refine ms_aload_n (k := 0) (p' := 60) (by decide +kernel) rfl rfl ?_
    refine ms_iconst (n := (-1)) (v := (-1)) (p' := 61) (by decide +kernel) rfl ?_
    refine ms_puti (idx := 44) (ci := 4) (k := 9) (q := 324) (p' := 64) (by decide +kernel) rfl ((wCn_k (by decide) (by decide)).trans (by decide +kernel)) ?_
    exact ms_vret (by decide +kernel)
  · rw [u_o (by omega), u_o (by omega), u_o (by omega), u_o (by omega), u_o (by omega), u_o (by omega), u_o (by omega), frg1 a q (by omega), z_o (by omega), u_o (by omega), z_o (by omega)]
  · rw [u_o (by decide), u_o (by decide), u_o (by decide), u_o (by decide), u_o (by decide), u_o (by decide), u_o (by decide), frg1 3 1 (by decide), z_o (by decide), u_self]
  · rw [u_o (by decide), u_self]
  · rw [u_self]
theorem ci_L18 (L : Nat) (f : mj_F) : ∃ f' : mj_F, mj_call yL_init (wCn L 19 1605 [(18, 0), (2, 1)]) f [.inr (.inl 18)] = some (wCn L 31 2253 [(2, 1)], f', none) ∧ (∀ a q, a < 19 → f' a q = f a q) := by
  refine ⟨mj_z (mj_z (mj_z (mj_z (mj_z (mj_z (mj_z (mj_z (mj_z (mj_z (mj_z (mj_z (f) 19) 20) 21) 22) 23) 24) 25) 26) 27) 28) 29) 30, ?_, fun a q h => ?_⟩
  · show mj_run yL_init (wCn L 19 1605 [(18, 0), (2, 1)]) f 0 [.inr (.inl 18)] [] = _
    refine ms_aload_n (k := 0) (p' := 1) (by decide +kernel) rfl rfl ?_
    refine mc_obj (idx := 3) (x := 0) (q := 199) (p' := 4) (by decide +kernel) rfl rfl ?_
    refine ms_aload_n (k := 0) (p' := 5) (by decide +kernel) rfl rfl ?_
    refine ms_iconst (n := 4) (v := 4) (p' := 6) (by decide +kernel) rfl ?_
    refine mc_newa (at_ := .int) (kd := 100) (m := 4) (l' := [(18, 0), (2, 1)]) (p' := 8) ⟨by decide +kernel, Or.inl ⟨rfl, rfl⟩, by decide +kernel, by decide +kernel, by decide⟩ ⟨rfl, by decide⟩ (okN_of (by decide +kernel)) rfl ?_
    refine mc_putr (idx := 9) (ci := 3) (k := 6) (q := 224) (l' := [(18, 7), (2, 1)]) (p' := 11) (by decide +kernel) ⟨by decide +kernel, by decide +kernel⟩ (by decide) (okU_of (by decide +kernel)) rfl ?_
    refine ms_aload_n (k := 0) (p' := 12) (by decide +kernel) rfl rfl ?_
    refine ms_bipush (n := 8) (v := 8) (p' := 14) (by decide +kernel) rfl ?_
    refine mc_newa (at_ := .int) (kd := 100) (m := 8) (l' := [(18, 7), (2, 1)]) (p' := 16) ⟨by decide +kernel, Or.inl ⟨rfl, rfl⟩, by decide +kernel, by decide +kernel, by decide⟩ ⟨rfl, by decide⟩ (okN_of (by decide +kernel)) rfl ?_
    refine mc_putr (idx := 15) (ci := 3) (k := 7) (q := 226) (l' := [(18, 8), (2, 1)]) (p' := 19) (by decide +kernel) ⟨by decide +kernel, by decide +kernel⟩ (by decide) (okU_of (by decide +kernel)) rfl ?_
    refine ms_aload_n (k := 0) (p' := 20) (by decide +kernel) rfl rfl ?_
    refine ms_iconst (n := 4) (v := 4) (p' := 21) (by decide +kernel) rfl ?_
    refine mc_newa (at_ := .int) (kd := 100) (m := 4) (l' := [(18, 8), (2, 1)]) (p' := 23) ⟨by decide +kernel, Or.inl ⟨rfl, rfl⟩, by decide +kernel, by decide +kernel, by decide⟩ ⟨rfl, by decide⟩ (okN_of (by decide +kernel)) rfl ?_
    refine mc_putr (idx := 18) (ci := 3) (k := 8) (q := 228) (l' := [(18, 9), (2, 1)]) (p' := 26) (by decide +kernel) ⟨by decide +kernel, by decide +kernel⟩ (by decide) (okU_of (by decide +kernel)) rfl ?_
    refine ms_aload_n (k := 0) (p' := 27) (by decide +kernel) rfl rfl ?_
    refine ms_bipush (n := 24) (v := 24) (p' := 29) (by decide +kernel) rfl ?_
    refine mc_newa (at_ := .int) (kd := 100) (m := 24) (l' := [(18, 9), (2, 1)]) (p' := 31) ⟨by decide +kernel, Or.inl ⟨rfl, rfl⟩, by decide +kernel, by decide +kernel, by decide⟩ ⟨rfl, by decide⟩ (okN_of (by decide +kernel)) rfl ?_
    refine mc_putr (idx := 21) (ci := 3) (k := 9) (q := 231) (l' := [(18, 10), (2, 1)]) (p' := 34) (by decide +kernel) ⟨by decide +kernel, by decide +kernel⟩ (by decide) (okU_of (by decide +kernel)) rfl ?_
    refine ms_aload_n (k := 0) (p' := 35) (by decide +kernel) rfl rfl ?_
    refine ms_sipush (n := 144) (v := 144) (p' := 38) (by decide +kernel) rfl ?_
    refine mc_newa (at_ := .int) (kd := 100) (m := 144) (l' := [(18, 10), (2, 1)]) (p' := 40) ⟨by decide +kernel, Or.inl ⟨rfl, rfl⟩, by decide +kernel, by decide +kernel, by decide⟩ ⟨rfl, by decide⟩ (okN_of (by decide +kernel)) rfl ?_
    refine mc_putr (idx := 24) (ci := 3) (k := 10) (q := 235) (l' := [(18, 11), (2, 1)]) (p' := 43) (by decide +kernel) ⟨by decide +kernel, by decide +kernel⟩ (by decide) (okU_of (by decide +kernel)) rfl ?_
    refine ms_aload_n (k := 0) (p' := 44) (by decide +kernel) rfl rfl ?_
    refine ms_sipush (n := 144) (v := 144) (p' := 47) (by decide +kernel) rfl ?_
    refine mc_newa (at_ := .int) (kd := 100) (m := 144) (l' := [(18, 11), (2, 1)]) (p' := 49) ⟨by decide +kernel, Or.inl ⟨rfl, rfl⟩, by decide +kernel, by decide +kernel, by decide⟩ ⟨rfl, by decide⟩ (okN_of (by decide +kernel)) rfl ?_
    refine mc_putr (idx := 27) (ci := 3) (k := 11) (q := 239) (l' := [(18, 12), (2, 1)]) (p' := 52) (by decide +kernel) ⟨by decide +kernel, by decide +kernel⟩ (by decide) (okU_of (by decide +kernel)) rfl ?_
    refine ms_aload_n (k := 0) (p' := 53) (by decide +kernel) rfl rfl ?_
    refine ms_sipush (n := 144) (v := 144) (p' := 56) (by decide +kernel) rfl ?_
    refine mc_newa (at_ := .int) (kd := 100) (m := 144) (l' := [(18, 12), (2, 1)]) (p' := 58) ⟨by decide +kernel, Or.inl ⟨rfl, rfl⟩, by decide +kernel, by decide +kernel, by decide⟩ ⟨rfl, by decide⟩ (okN_of (by decide +kernel)) rfl ?_
    refine mc_putr (idx := 30) (ci := 3) (k := 12) (q := 243) (l' := [(18, 13), (2, 1)]) (p' := 61) (by decide +kernel) ⟨by decide +kernel, by decide +kernel⟩ (by decide) (okU_of (by decide +kernel)) rfl ?_
    refine ms_aload_n (k := 0) (p' := 62) (by decide +kernel) rfl rfl ?_
    refine ms_bipush (n := 16) (v := 16) (p' := 64) (by decide +kernel) rfl ?_
    refine mc_newa (at_ := .int) (kd := 100) (m := 16) (l' := [(18, 13), (2, 1)]) (p' := 66) ⟨by decide +kernel, Or.inl ⟨rfl, rfl⟩, by decide +kernel, by decide +kernel, by decide⟩ ⟨rfl, by decide⟩ (okN_of (by decide +kernel)) rfl ?_
    refine mc_putr (idx := 33) (ci := 3) (k := 13) (q := 247) (l' := [(18, 14), (2, 1)]) (p' := 69) (by decide +kernel) ⟨by decide +kernel, by decide +kernel⟩ (by decide) (okU_of (by decide +kernel)) rfl ?_
    refine ms_aload_n (k := 0) (p' := 70) (by decide +kernel) rfl rfl ?_
    refine ms_bipush (n := 16) (v := 16) (p' := 72) (by decide +kernel) rfl ?_
    refine mc_newa (at_ := .int) (kd := 100) (m := 16) (l' := [(18, 14), (2, 1)]) (p' := 74) ⟨by decide +kernel, Or.inl ⟨rfl, rfl⟩, by decide +kernel, by decide +kernel, by decide⟩ ⟨rfl, by decide⟩ (okN_of (by decide +kernel)) rfl ?_
    refine mc_putr (idx := 36) (ci := 3) (k := 14) (q := 253) (l' := [(18, 15), (2, 1)]) (p' := 77) (by decide +kernel) ⟨by decide +kernel, by decide +kernel⟩ (by decide) (okU_of (by decide +kernel)) rfl ?_
    refine ms_aload_n (k := 0) (p' := 78) (by decide +kernel) rfl rfl ?_
    refine ms_bipush (n := 16) (v := 16) (p' := 80) (by decide +kernel) rfl ?_
    refine mc_newa (at_ := .int) (kd := 100) (m := 16) (l' := [(18, 15), (2, 1)]) (p' := 82) ⟨by decide +kernel, Or.inl ⟨rfl, rfl⟩, by decide +kernel, by decide +kernel, by decide⟩ ⟨rfl, by decide⟩ (okN_of (by decide +kernel)) rfl ?_
    refine mc_putr (idx := 39) (ci := 3) (k := 15) (q := 261) (l' := [(18, 16), (2, 1)]) (p' := 85) (by decide +kernel) ⟨by decide +kernel, by decide +kernel⟩ (by decide) (okU_of (by decide +kernel)) rfl ?_
    refine ms_aload_n (k := 0) (p' := 86) (by decide +kernel) rfl rfl ?_
    refine ms_bipush (n := 64) (v := 64) (p' := 88) (by decide +kernel) rfl ?_
    refine mc_newa (at_ := .int) (kd := 100) (m := 64) (l' := [(18, 16), (2, 1)]) (p' := 90) ⟨by decide +kernel, Or.inl ⟨rfl, rfl⟩, by decide +kernel, by decide +kernel, by decide⟩ ⟨rfl, by decide⟩ (okN_of (by decide +kernel)) rfl ?_
    refine mc_putr (idx := 42) (ci := 3) (k := 16) (q := 265) (l' := [(18, 17), (2, 1)]) (p' := 93) (by decide +kernel) ⟨by decide +kernel, by decide +kernel⟩ (by decide) (okU_of (by decide +kernel)) rfl ?_
    refine ms_aload_n (k := 0) (p' := 94) (by decide +kernel) rfl rfl ?_
    refine ms_bipush (n := 64) (v := 64) (p' := 96) (by decide +kernel) rfl ?_
    refine mc_newa (at_ := .int) (kd := 100) (m := 64) (l' := [(18, 17), (2, 1)]) (p' := 98) ⟨by decide +kernel, Or.inl ⟨rfl, rfl⟩, by decide +kernel, by decide +kernel, by decide⟩ ⟨rfl, by decide⟩ (okN_of (by decide +kernel)) rfl ?_
    refine mc_putr (idx := 45) (ci := 3) (k := 17) (q := 269) (l' := [(2, 1)]) (p' := 101) (by decide +kernel) ⟨by decide +kernel, by decide +kernel⟩ (by decide) (okU_of (by decide +kernel)) rfl ?_
    exact ms_vret (by decide +kernel)
  · rw [z_o (by omega), z_o (by omega), z_o (by omega), z_o (by omega), z_o (by omega), z_o (by omega), z_o (by omega), z_o (by omega), z_o (by omega), z_o (by omega), z_o (by omega), z_o (by omega)]
theorem lp_G (L : Nat) : ∀ (d k : Nat) (f : mj_F), 60 - k = d → k ≤ 60 → ∃ f' : mj_F, mj_run yG_init (wCn L (48 + 2 * k) (2818 + 39 * k) ((38, k) :: [(31, 0), (2, 6)])) f 87 [.inr (.inl 37), .inl (k : Int)] [] = mj_run yG_init (wCn L (48 + 2 * 60) (2818 + 39 * 60) ((38, 60) :: [(31, 0), (2, 6)])) f' 112 [.inr (.inl 37), .inl ((60 : Nat) : Int)] [] ∧ (∀ a q, a < 48 + 2 * k → f' a q = f a q) ∧ ∀ t, k ≤ t → t < 60 → f' (48 + 2 * t) 1 = 1 ∧ f' (48 + 2 * t) 2 = 0 ∧ f' (48 + 2 * t + 1) 0 = 1 := by
  intro d
  induction d with
  | zero =>
    intro k f h1 h2
    have : k = 60 := by omega
    subst this
    refine ⟨f, ?_, fun _ _ _ => rfl, fun t h3 h4 => absurd h4 (by omega)⟩
    refine ms_iload_n (k := 1) (p' := 88) (by decide +kernel) rfl rfl ?_
    refine ms_bipush (n := 60) (v := 60) (p' := 90) (by decide +kernel) rfl ?_
    exact (ms_icmp_ge (off := 22) (t := 112) (p' := 93) (X2 := none) (by decide +kernel) rfl (fun _ => rfl) (fun q => absurd (by omega) q)).trans (if_pos (by omega))
  | succ d ih =>
    intro k f h1 h2
    have hk : k < 60 := by omega
    have hz := zn48 hk
    have hzk := (zn_at (sw := false) hz).1.1
    have hrk : wk_ref false 38 k = 48 + 2 * k := by
      have := List.all_eq_true.mp rz38_all k (List.mem_range.mpr hk)
      simp only [Bool.and_eq_true, decide_eq_true_eq] at this
      exact this.1.2
    obtain ⟨f', e, fr, fa⟩ := ih (k + 1) (zF f (48 + 2 * k)) (by omega) (by omega)
    refine ⟨f', ?_, fun a q h => ?_, fun t h3 h4 => ?_⟩
    · refine ms_iload_n (k := 1) (p' := 88) (by decide +kernel) rfl rfl ?_
      refine ms_bipush (n := 60) (v := 60) (p' := 90) (by decide +kernel) rfl ?_
      refine (ms_icmp_ge (off := 22) (t := 112) (p' := 93) (X1 := none) (by decide +kernel) rfl (fun q => absurd q (by omega)) (fun _ => rfl)).trans ((if_neg (by omega)).trans ?_)
      refine ms_aload_n (k := 0) (p' := 94) (by decide +kernel) rfl rfl ?_
      refine ms_getr (idx := 11) (ci := 0) (k := 0) (q := 382) (r := 38) (p' := 97) (by decide +kernel) rfl ((wCn_k (by decide) (by omega)).trans (by decide +kernel)) ((wCn_r (by decide) (by omega) rfl).trans (by decide +kernel)) (by decide) ?_
      refine ms_iload_n (k := 1) (p' := 98) (by decide +kernel) rfl rfl ?_
      refine mc_zone (ix := 9) (iy := 39) (q1 := 379) (q2 := 380) (p' := 105) ⟨⟨by decide +kernel, by decide +kernel⟩, by decide +kernel, ⟨by decide +kernel, by decide +kernel⟩, by decide +kernel, by decide +kernel⟩ hz (fun _ => pdB_no (by simp only [List.map_cons, List.map_nil, List.mem_cons, List.not_mem_nil, or_false]; omega)) rfl rfl ?_
      refine mc_aast (k := k) (m := 60) (l' := (38, k + 1) :: [(31, 0), (2, 6)]) (p' := 106) (by decide +kernel) ⟨by decide +kernel, hrk, hzk⟩ ⟨⟨by decide, by omega⟩, ⟨by omega, by omega⟩, hk⟩ (fun x y _ => pd_step (fun _ => pdB_no (by decide)) x y) rfl ?_
      refine ms_iinc (k := 1) (n := 1) (ls' := [.inr (.inl 37), .inl (mj_w ((k : Int) + 1))]) (p' := 109) (by decide +kernel) rfl rfl rfl ?_
      refine ms_goto (off := (-22)) (p' := 87) (by decide +kernel) ?_
      rw [wS (by omega), show 48 + 2 * k + 2 = 48 + 2 * (k + 1) by omega, show 2818 + 39 * k + 39 = 2818 + 39 * (k + 1) by omega]
      exact e
    · rw [fr a q (by omega), zF_o (by omega) (by omega)]
    · by_cases ht : t = k
      · subst ht
        rw [fr _ _ (by omega), fr _ _ (by omega), fr _ _ (by omega)]
        exact ⟨zF_1, zF_2, zF_c⟩
      · exact fa t (by omega) h4
theorem ci_G (L : Nat) (f : mj_F) : ∃ f' : mj_F, mj_call yG_init (wCn L 38 2351 [(37, 0), (31, 0), (2, 6)]) f [.inr (.inl 37)] = some (wCn L 168 5158 [(31, 0), (2, 6)], f', none) ∧ (∀ a q, a < 37 → f' a q = f a q) ∧ f' 37 9 = 0 := by
  obtain ⟨g1, eg1, frg1, fag1⟩ := lp_G L 60 0 (mj_u (zF (mj_z (mj_z (mj_z (mj_z (mj_z (mj_z (mj_z (mj_z (f) 38) 39) 40) 41) 42) 43) 44) 45) 46) 37 9 0) (by decide) (by decide)
  refine ⟨fillM (g1) 44 8 (-2), ?_, fun a q h => ?_, ?_⟩
  · show mj_run yG_init (wCn L 38 2351 [(37, 0), (31, 0), (2, 6)]) f 0 [.inr (.inl 37), .inr (.inr (.inr 0))] [] = _
    refine ms_aload_n (k := 0) (p' := 1) (by decide +kernel) rfl rfl ?_
    refine mc_obj (idx := 3) (x := 0) (q := 378) (p' := 4) (by decide +kernel) rfl rfl ?_
    refine ms_aload_n (k := 0) (p' := 5) (by decide +kernel) rfl rfl ?_
    refine ms_bipush (n := 60) (v := 60) (p' := 7) (by decide +kernel) rfl ?_
    refine mc_anew (idx := 9) (q := 379) (m := 60) (l' := [(38, 0), (37, 0), (31, 0), (2, 6)]) (p' := 10) ⟨by decide +kernel, by decide +kernel, by decide +kernel, by decide +kernel, by decide⟩ ⟨rfl, by decide⟩ (okN_of (by decide +kernel)) rfl ?_
    refine mc_putr (idx := 11) (ci := 0) (k := 0) (q := 382) (l' := [(38, 0), (37, 1), (31, 0), (2, 6)]) (p' := 13) (by decide +kernel) ⟨by decide +kernel, by decide +kernel⟩ (by decide) (okU_of (by decide +kernel)) rfl ?_
    refine ms_aload_n (k := 0) (p' := 14) (by decide +kernel) rfl rfl ?_
    refine ms_bipush (n := 60) (v := 60) (p' := 16) (by decide +kernel) rfl ?_
    refine mc_newa (at_ := .int) (kd := 100) (m := 60) (l' := [(38, 0), (37, 1), (31, 0), (2, 6)]) (p' := 18) ⟨by decide +kernel, Or.inl ⟨rfl, rfl⟩, by decide +kernel, by decide +kernel, by decide⟩ ⟨rfl, by decide⟩ (okN_of (by decide +kernel)) rfl ?_
    refine mc_putr (idx := 17) (ci := 0) (k := 1) (q := 384) (l' := [(38, 0), (37, 2), (31, 0), (2, 6)]) (p' := 21) (by decide +kernel) ⟨by decide +kernel, by decide +kernel⟩ (by decide) (okU_of (by decide +kernel)) rfl ?_
    refine ms_aload_n (k := 0) (p' := 22) (by decide +kernel) rfl rfl ?_
    refine ms_bipush (n := 60) (v := 60) (p' := 24) (by decide +kernel) rfl ?_
    refine mc_newa (at_ := .int) (kd := 100) (m := 60) (l' := [(38, 0), (37, 2), (31, 0), (2, 6)]) (p' := 26) ⟨by decide +kernel, Or.inl ⟨rfl, rfl⟩, by decide +kernel, by decide +kernel, by decide⟩ ⟨rfl, by decide⟩ (okN_of (by decide +kernel)) rfl ?_
    refine mc_putr (idx := 21) (ci := 0) (k := 2) (q := 386) (l' := [(38, 0), (37, 3), (31, 0), (2, 6)]) (p' := 29) (by decide +kernel) ⟨by decide +kernel, by decide +kernel⟩ (by decide) (okU_of (by decide +kernel)) rfl ?_
    refine ms_aload_n (k := 0) (p' := 30) (by decide +kernel) rfl rfl ?_
    refine ms_bipush (n := 60) (v := 60) (p' := 32) (by decide +kernel) rfl ?_
    refine mc_newa (at_ := .int) (kd := 100) (m := 60) (l' := [(38, 0), (37, 3), (31, 0), (2, 6)]) (p' := 34) ⟨by decide +kernel, Or.inl ⟨rfl, rfl⟩, by decide +kernel, by decide +kernel, by decide⟩ ⟨rfl, by decide⟩ (okN_of (by decide +kernel)) rfl ?_
    refine mc_putr (idx := 24) (ci := 0) (k := 3) (q := 388) (l' := [(38, 0), (37, 4), (31, 0), (2, 6)]) (p' := 37) (by decide +kernel) ⟨by decide +kernel, by decide +kernel⟩ (by decide) (okU_of (by decide +kernel)) rfl ?_
    refine ms_aload_n (k := 0) (p' := 38) (by decide +kernel) rfl rfl ?_
    refine ms_bipush (n := 60) (v := 60) (p' := 40) (by decide +kernel) rfl ?_
    refine mc_newa (at_ := .int) (kd := 100) (m := 60) (l' := [(38, 0), (37, 4), (31, 0), (2, 6)]) (p' := 42) ⟨by decide +kernel, Or.inl ⟨rfl, rfl⟩, by decide +kernel, by decide +kernel, by decide⟩ ⟨rfl, by decide⟩ (okN_of (by decide +kernel)) rfl ?_
    refine mc_putr (idx := 27) (ci := 0) (k := 4) (q := 390) (l' := [(38, 0), (37, 5), (31, 0), (2, 6)]) (p' := 45) (by decide +kernel) ⟨by decide +kernel, by decide +kernel⟩ (by decide) (okU_of (by decide +kernel)) rfl ?_
    refine ms_aload_n (k := 0) (p' := 46) (by decide +kernel) rfl rfl ?_
    refine ms_bipush (n := 60) (v := 60) (p' := 48) (by decide +kernel) rfl ?_
    refine mc_newa (at_ := .int) (kd := 100) (m := 60) (l' := [(38, 0), (37, 5), (31, 0), (2, 6)]) (p' := 50) ⟨by decide +kernel, Or.inl ⟨rfl, rfl⟩, by decide +kernel, by decide +kernel, by decide⟩ ⟨rfl, by decide⟩ (okN_of (by decide +kernel)) rfl ?_
    refine mc_putr (idx := 30) (ci := 0) (k := 5) (q := 392) (l' := [(38, 0), (37, 6), (31, 0), (2, 6)]) (p' := 53) (by decide +kernel) ⟨by decide +kernel, by decide +kernel⟩ (by decide) (okU_of (by decide +kernel)) rfl ?_
    refine ms_aload_n (k := 0) (p' := 54) (by decide +kernel) rfl rfl ?_
    refine ms_bipush (n := 8) (v := 8) (p' := 56) (by decide +kernel) rfl ?_
    refine mc_newa (at_ := .int) (kd := 100) (m := 8) (l' := [(38, 0), (37, 6), (31, 0), (2, 6)]) (p' := 58) ⟨by decide +kernel, Or.inl ⟨rfl, rfl⟩, by decide +kernel, by decide +kernel, by decide⟩ ⟨rfl, by decide⟩ (okN_of (by decide +kernel)) rfl ?_
    refine mc_putr (idx := 33) (ci := 0) (k := 6) (q := 393) (l' := [(38, 0), (37, 7), (31, 0), (2, 6)]) (p' := 61) (by decide +kernel) ⟨by decide +kernel, by decide +kernel⟩ (by decide) (okU_of (by decide +kernel)) rfl ?_
    refine ms_aload_n (k := 0) (p' := 62) (by decide +kernel) rfl rfl ?_
    refine ms_bipush (n := 60) (v := 60) (p' := 64) (by decide +kernel) rfl ?_
    refine mc_newa (at_ := .int) (kd := 100) (m := 60) (l' := [(38, 0), (37, 7), (31, 0), (2, 6)]) (p' := 66) ⟨by decide +kernel, Or.inl ⟨rfl, rfl⟩, by decide +kernel, by decide +kernel, by decide⟩ ⟨rfl, by decide⟩ (okN_of (by decide +kernel)) rfl ?_
    refine mc_putr (idx := 36) (ci := 0) (k := 7) (q := 395) (l' := [(38, 0), (37, 8), (31, 0), (2, 6)]) (p' := 69) (by decide +kernel) ⟨by decide +kernel, by decide +kernel⟩ (by decide) (okU_of (by decide +kernel)) rfl ?_
    refine ms_aload_n (k := 0) (p' := 70) (by decide +kernel) rfl rfl ?_
    refine mc_zone (ix := 9) (iy := 39) (q1 := 379) (q2 := 380) (p' := 77) ⟨⟨by decide +kernel, by decide +kernel⟩, by decide +kernel, ⟨by decide +kernel, by decide +kernel⟩, by decide +kernel, by decide +kernel⟩ (by decide +kernel) (fun _ => pdB_no (by decide)) rfl rfl ?_
    refine mc_putr (idx := 40) (ci := 0) (k := 8) (q := 397) (l' := [(38, 0), (31, 0), (2, 6)]) (p' := 80) (by decide +kernel) ⟨by decide +kernel, by decide +kernel⟩ (by decide) (okU_of (by decide +kernel)) rfl ?_
    refine ms_aload_n (k := 0) (p' := 81) (by decide +kernel) rfl rfl ?_
    refine ms_iconst (n := 0) (v := 0) (p' := 82) (by decide +kernel) rfl ?_
    refine ms_puti (idx := 44) (ci := 0) (k := 9) (q := 398) (p' := 85) (by decide +kernel) rfl ((wCn_k (by decide) (by decide)).trans (by decide +kernel)) ?_
    refine ms_iconst (n := 0) (v := 0) (p' := 86) (by decide +kernel) rfl ?_
    refine ms_istore_n (k := 1) (ls' := [.inr (.inl 37), .inl 0]) (p' := 87) (by decide +kernel) rfl (Nat.le_of_ble_eq_true rfl) rfl ?_
    refine Eq.trans eg1 ?_
    rw [show wCn L (48 + 2 * 60) (2818 + 39 * 60) ((38, 60) :: [(31, 0), (2, 6)]) = wCn L 168 5158 [(31, 0), (2, 6)] from wCn_e (okE_of (by decide +kernel))]
    show mj_run yG_init (wCn L 168 5158 [(31, 0), (2, 6)]) g1 112 [.inr (.inl 37), .inl 60] [] = _
    refine ms_aload_n (k := 0) (p' := 113) (by decide +kernel) rfl rfl ?_
    refine ms_getr (idx := 33) (ci := 0) (k := 6) (q := 393) (r := 44) (p' := 116) (by decide +kernel) rfl ((wCn_k (by decide) (by decide)).trans (by decide +kernel)) ((wCn_r (by decide) (by decide) (by decide +kernel)).trans (by decide +kernel)) (by decide) ?_
    refine ms_bipush (n := (-2)) (v := (-2)) (p' := 118) (by decide +kernel) rfl ?_
    refine (ms_stat_u (idx := 48) (cy := yA_fill) (n := 2) (as := [.inr (.inl 44), .inl (-2)]) (rest := []) (p' := 121) (by decide +kernel) rfl rfl rfl rfl rfl (fun f1 => ms_vret (by decide +kernel))).trans ?_
    rw [af_fill _ ((wCn_k (by decide) (by decide)).trans (show wk_k.getD 44 (0, 0) = (100, 8) by decide +kernel)) (by decide), mj_bu_some]
  · rw [fill_o (by omega), frg1 a q (by omega), u_o (by omega), zF_o (by omega) (by omega), z_o (by omega), z_o (by omega), z_o (by omega), z_o (by omega), z_o (by omega), z_o (by omega), z_o (by omega), z_o (by omega)]
  · rw [fill_o (by decide), frg1 37 9 (by decide), u_self]
theorem ci_P (L : Nat) (f : mj_F) : ∃ f' : mj_F, mj_call yP_init (wCn L 169 5160 [(168, 0), (31, 0), (2, 7)]) f [.inr (.inl 168)] = some (wCn L 170 5180 [(31, 0), (2, 7)], f', none) ∧ (∀ a q, a < 168 → f' a q = f a q) ∧ f' 168 1 = 0 := by
  refine ⟨mj_u (mj_z (f) 169) 168 1 0, ?_, fun a q h => ?_, ?_⟩
  · show mj_run yP_init (wCn L 169 5160 [(168, 0), (31, 0), (2, 7)]) f 0 [.inr (.inl 168)] [] = _
    refine ms_aload_n (k := 0) (p' := 1) (by decide +kernel) rfl rfl ?_
    refine mc_obj (idx := 3) (x := 0) (q := 426) (p' := 4) (by decide +kernel) rfl rfl ?_
    refine ms_aload_n (k := 0) (p' := 5) (by decide +kernel) rfl rfl ?_
    refine ms_bipush (n := 20) (v := 20) (p' := 7) (by decide +kernel) rfl ?_
    refine mc_newa (at_ := .int) (kd := 100) (m := 20) (l' := [(168, 0), (31, 0), (2, 7)]) (p' := 9) ⟨by decide +kernel, Or.inl ⟨rfl, rfl⟩, by decide +kernel, by decide +kernel, by decide⟩ ⟨rfl, by decide⟩ (okN_of (by decide +kernel)) rfl ?_
    refine mc_putr (idx := 9) (ci := 2) (k := 0) (q := 427) (l' := [(31, 0), (2, 7)]) (p' := 12) (by decide +kernel) ⟨by decide +kernel, by decide +kernel⟩ (by decide) (okU_of (by decide +kernel)) rfl ?_
    refine ms_aload_n (k := 0) (p' := 13) (by decide +kernel) rfl rfl ?_
    refine ms_iconst (n := 0) (v := 0) (p' := 14) (by decide +kernel) rfl ?_
    refine ms_puti (idx := 15) (ci := 2) (k := 1) (q := 431) (p' := 17) (by decide +kernel) rfl ((wCn_k (by decide) (by decide)).trans (by decide +kernel)) ?_
    exact ms_vret (by decide +kernel)
  · rw [u_o (by omega), z_o (by omega)]
  · rw [u_self]
theorem ci_T (L : Nat) (f : mj_F) : ∃ f' : mj_F, mj_call yT_init (wCn L 171 5188 [(170, 0), (31, 0), (2, 8)]) f [.inr (.inl 170)] = some (wCn L 175 6078 [(31, 0), (2, 8)], f', none) ∧ (∀ a q, a < 170 → f' a q = f a q) ∧ f' 170 4 = 1 := by
  refine ⟨mj_u (mj_u (mj_u (mj_u (mj_z (mj_z (mj_z (mj_z (f) 171) 172) 173) 174) 170 4 1) 170 5 1) 170 6 0) 170 7 0, ?_, fun a q h => ?_, ?_⟩
  · show mj_run yT_init (wCn L 171 5188 [(170, 0), (31, 0), (2, 8)]) f 0 [.inr (.inl 170)] [] = _
    refine ms_aload_n (k := 0) (p' := 1) (by decide +kernel) rfl rfl ?_
    refine mc_obj (idx := 3) (x := 0) (q := 445) (p' := 4) (by decide +kernel) rfl rfl ?_
    refine ms_aload_n (k := 0) (p' := 5) (by decide +kernel) rfl rfl ?_
    refine ms_sipush (n := 441) (v := 441) (p' := 8) (by decide +kernel) rfl ?_
    refine mc_newa (at_ := .int) (kd := 100) (m := 441) (l' := [(170, 0), (31, 0), (2, 8)]) (p' := 10) ⟨by decide +kernel, Or.inl ⟨rfl, rfl⟩, by decide +kernel, by decide +kernel, by decide⟩ ⟨rfl, by decide⟩ (okN_of (by decide +kernel)) rfl ?_
    refine mc_putr (idx := 9) (ci := 5) (k := 0) (q := 446) (l' := [(170, 1), (31, 0), (2, 8)]) (p' := 13) (by decide +kernel) ⟨by decide +kernel, by decide +kernel⟩ (by decide) (okU_of (by decide +kernel)) rfl ?_
    refine ms_aload_n (k := 0) (p' := 14) (by decide +kernel) rfl rfl ?_
    refine ms_sipush (n := 441) (v := 441) (p' := 17) (by decide +kernel) rfl ?_
    refine mc_newa (at_ := .int) (kd := 100) (m := 441) (l' := [(170, 1), (31, 0), (2, 8)]) (p' := 19) ⟨by decide +kernel, Or.inl ⟨rfl, rfl⟩, by decide +kernel, by decide +kernel, by decide⟩ ⟨rfl, by decide⟩ (okN_of (by decide +kernel)) rfl ?_
    refine mc_putr (idx := 15) (ci := 5) (k := 1) (q := 447) (l' := [(170, 2), (31, 0), (2, 8)]) (p' := 22) (by decide +kernel) ⟨by decide +kernel, by decide +kernel⟩ (by decide) (okU_of (by decide +kernel)) rfl ?_
    refine ms_aload_n (k := 0) (p' := 23) (by decide +kernel) rfl rfl ?_
    refine ms_iconst (n := 4) (v := 4) (p' := 24) (by decide +kernel) rfl ?_
    refine mc_newa (at_ := .int) (kd := 100) (m := 4) (l' := [(170, 2), (31, 0), (2, 8)]) (p' := 26) ⟨by decide +kernel, Or.inl ⟨rfl, rfl⟩, by decide +kernel, by decide +kernel, by decide⟩ ⟨rfl, by decide⟩ (okN_of (by decide +kernel)) rfl ?_
    refine mc_putr (idx := 18) (ci := 5) (k := 2) (q := 448) (l' := [(170, 3), (31, 0), (2, 8)]) (p' := 29) (by decide +kernel) ⟨by decide +kernel, by decide +kernel⟩ (by decide) (okU_of (by decide +kernel)) rfl ?_
    refine ms_aload_n (k := 0) (p' := 30) (by decide +kernel) rfl rfl ?_
    refine ms_iconst (n := 4) (v := 4) (p' := 31) (by decide +kernel) rfl ?_
    refine mc_newa (at_ := .int) (kd := 100) (m := 4) (l' := [(170, 3), (31, 0), (2, 8)]) (p' := 33) ⟨by decide +kernel, Or.inl ⟨rfl, rfl⟩, by decide +kernel, by decide +kernel, by decide⟩ ⟨rfl, by decide⟩ (okN_of (by decide +kernel)) rfl ?_
    refine mc_putr (idx := 21) (ci := 5) (k := 3) (q := 449) (l' := [(31, 0), (2, 8)]) (p' := 36) (by decide +kernel) ⟨by decide +kernel, by decide +kernel⟩ (by decide) (okU_of (by decide +kernel)) rfl ?_
    refine ms_aload_n (k := 0) (p' := 37) (by decide +kernel) rfl rfl ?_
    refine ms_iconst (n := 1) (v := 1) (p' := 38) (by decide +kernel) rfl ?_
    refine Eq.trans (ms_putz (idx := 24) (ci := 5) (k := 4) (q := 450) (p' := 41) (by decide +kernel) rfl ((wCn_k (by decide) (by decide)).trans (by decide +kernel)) (fun _ => ?_)) (mj_gd_pos (by decide) _)
    refine ms_aload_n (k := 0) (p' := 42) (by decide +kernel) rfl rfl ?_
    refine ms_iconst (n := 1) (v := 1) (p' := 43) (by decide +kernel) rfl ?_
    refine Eq.trans (ms_putz (idx := 28) (ci := 5) (k := 5) (q := 452) (p' := 46) (by decide +kernel) rfl ((wCn_k (by decide) (by decide)).trans (by decide +kernel)) (fun _ => ?_)) (mj_gd_pos (by decide) _)
    refine ms_aload_n (k := 0) (p' := 47) (by decide +kernel) rfl rfl ?_
    refine ms_iconst (n := 0) (v := 0) (p' := 48) (by decide +kernel) rfl ?_
    refine Eq.trans (ms_putz (idx := 31) (ci := 5) (k := 6) (q := 454) (p' := 51) (by decide +kernel) rfl ((wCn_k (by decide) (by decide)).trans (by decide +kernel)) (fun _ => ?_)) (mj_gd_pos (by decide) _)
    refine ms_aload_n (k := 0) (p' := 52) (by decide +kernel) rfl rfl ?_
    refine ms_iconst (n := 0) (v := 0) (p' := 53) (by decide +kernel) rfl ?_
    refine Eq.trans (ms_putz (idx := 34) (ci := 5) (k := 7) (q := 456) (p' := 56) (by decide +kernel) rfl ((wCn_k (by decide) (by decide)).trans (by decide +kernel)) (fun _ => ?_)) (mj_gd_pos (by decide) _)
    exact ms_vret (by decide +kernel)
  · rw [u_o (by omega), u_o (by omega), u_o (by omega), u_o (by omega), z_o (by omega), z_o (by omega), z_o (by omega), z_o (by omega)]
  · rw [u_o (by decide), u_o (by decide), u_o (by decide), u_self]
theorem ci_W (L : Nat) (f : mj_F) : ∃ f' : mj_F, mj_call yW_init (wCn L 176 6079 [(175, 0), (31, 0), (2, 9)]) f [.inr (.inl 175)] = some (wCn L 178 6118 [(31, 0), (2, 9)], f', none) ∧ (∀ a q, a < 175 → f' a q = f a q) := by
  refine ⟨zF (f) 176, ?_, fun a q h => ?_⟩
  · show mj_run yW_init (wCn L 176 6079 [(175, 0), (31, 0), (2, 9)]) f 0 [.inr (.inl 175)] [] = _
    refine ms_aload_n (k := 0) (p' := 1) (by decide +kernel) rfl rfl ?_
    refine mc_obj (idx := 1) (x := 0) (q := 480) (p' := 4) (by decide +kernel) rfl rfl ?_
    refine ms_aload_n (k := 0) (p' := 5) (by decide +kernel) rfl rfl ?_
    refine mc_zone (ix := 7) (iy := 9) (q1 := 481) (q2 := 482) (p' := 12) ⟨⟨by decide +kernel, by decide +kernel⟩, by decide +kernel, ⟨by decide +kernel, by decide +kernel⟩, by decide +kernel, by decide +kernel⟩ (by decide +kernel) (fun _ => pdB_no (by decide)) rfl rfl ?_
    refine mc_putr (idx := 10) (ci := 6) (k := 0) (q := 483) (l' := [(31, 0), (2, 9)]) (p' := 15) (by decide +kernel) ⟨by decide +kernel, by decide +kernel⟩ (by decide) (okU_of (by decide +kernel)) rfl ?_
    exact ms_vret (by decide +kernel)
  · rw [zF_o (by omega) (by omega)]
theorem lp_H (L : Nat) : ∀ (d k : Nat) (f : mj_F), 16 - k = d → k ≤ 16 → ∃ f' : mj_F, mj_run yH_init (wCn L (183 + 2 * k) (6492 + 39 * k) ((180, k) :: [(31, 0), (2, 10)])) f 50 [.inr (.inl 178), .inl (k : Int)] [] = mj_run yH_init (wCn L (183 + 2 * 16) (6492 + 39 * 16) ((180, 16) :: [(31, 0), (2, 10)])) f' 75 [.inr (.inl 178), .inl ((16 : Nat) : Int)] [] ∧ (∀ a q, a < 183 + 2 * k → f' a q = f a q) ∧ ∀ t, k ≤ t → t < 16 → f' (183 + 2 * t) 1 = 1 ∧ f' (183 + 2 * t) 2 = 0 ∧ f' (183 + 2 * t + 1) 0 = 1 := by
  intro d
  induction d with
  | zero =>
    intro k f h1 h2
    have : k = 16 := by omega
    subst this
    refine ⟨f, ?_, fun _ _ _ => rfl, fun t h3 h4 => absurd h4 (by omega)⟩
    refine ms_iload_n (k := 1) (p' := 51) (by decide +kernel) rfl rfl ?_
    refine ms_bipush (n := 16) (v := 16) (p' := 53) (by decide +kernel) rfl ?_
    exact (ms_icmp_ge (off := 22) (t := 75) (p' := 56) (X2 := none) (by decide +kernel) rfl (fun _ => rfl) (fun q => absurd (by omega) q)).trans (if_pos (by omega))
  | succ d ih =>
    intro k f h1 h2
    have hk : k < 16 := by omega
    have hz := zn183 hk
    have hzk := (zn_at (sw := false) hz).1.1
    have hrk : wk_ref false 180 k = 183 + 2 * k := by
      have := List.all_eq_true.mp rz180_all k (List.mem_range.mpr hk)
      simp only [Bool.and_eq_true, decide_eq_true_eq] at this
      exact this.1.2
    obtain ⟨f', e, fr, fa⟩ := ih (k + 1) (zF f (183 + 2 * k)) (by omega) (by omega)
    refine ⟨f', ?_, fun a q h => ?_, fun t h3 h4 => ?_⟩
    · refine ms_iload_n (k := 1) (p' := 51) (by decide +kernel) rfl rfl ?_
      refine ms_bipush (n := 16) (v := 16) (p' := 53) (by decide +kernel) rfl ?_
      refine (ms_icmp_ge (off := 22) (t := 75) (p' := 56) (X1 := none) (by decide +kernel) rfl (fun q => absurd q (by omega)) (fun _ => rfl)).trans ((if_neg (by omega)).trans ?_)
      refine ms_aload_n (k := 0) (p' := 57) (by decide +kernel) rfl rfl ?_
      refine ms_getr (idx := 17) (ci := 1) (k := 1) (q := 498) (r := 180) (p' := 60) (by decide +kernel) rfl ((wCn_k (by decide) (by omega)).trans (by decide +kernel)) ((wCn_r (by decide) (by omega) rfl).trans (by decide +kernel)) (by decide) ?_
      refine ms_iload_n (k := 1) (p' := 61) (by decide +kernel) rfl rfl ?_
      refine mc_zone (ix := 15) (iy := 34) (q1 := 494) (q2 := 495) (p' := 68) ⟨⟨by decide +kernel, by decide +kernel⟩, by decide +kernel, ⟨by decide +kernel, by decide +kernel⟩, by decide +kernel, by decide +kernel⟩ hz (fun _ => pdB_no (by simp only [List.map_cons, List.map_nil, List.mem_cons, List.not_mem_nil, or_false]; omega)) rfl rfl ?_
      refine mc_aast (k := k) (m := 16) (l' := (180, k + 1) :: [(31, 0), (2, 10)]) (p' := 69) (by decide +kernel) ⟨by decide +kernel, hrk, hzk⟩ ⟨⟨by decide, by omega⟩, ⟨by omega, by omega⟩, hk⟩ (fun x y _ => pd_step (fun _ => pdB_no (by decide)) x y) rfl ?_
      refine ms_iinc (k := 1) (n := 1) (ls' := [.inr (.inl 178), .inl (mj_w ((k : Int) + 1))]) (p' := 72) (by decide +kernel) rfl rfl rfl ?_
      refine ms_goto (off := (-22)) (p' := 50) (by decide +kernel) ?_
      rw [wS (by omega), show 183 + 2 * k + 2 = 183 + 2 * (k + 1) by omega, show 6492 + 39 * k + 39 = 6492 + 39 * (k + 1) by omega]
      exact e
    · rw [fr a q (by omega), zF_o (by omega) (by omega)]
    · by_cases ht : t = k
      · subst ht
        rw [fr _ _ (by omega), fr _ _ (by omega), fr _ _ (by omega)]
        exact ⟨zF_1, zF_2, zF_c⟩
      · exact fa t (by omega) h4
theorem ci_H (L : Nat) (f : mj_F) : ∃ f' : mj_F, mj_call yH_init (wCn L 179 6124 [(178, 0), (31, 0), (2, 10)]) f [.inr (.inl 178)] = some (wCn L 215 7116 [(31, 0), (2, 10)], f', none) ∧ (∀ a q, a < 178 → f' a q = f a q) ∧ f' 178 4 = 0 ∧ f' 178 5 = 0 := by
  obtain ⟨g1, eg1, frg1, fag1⟩ := lp_H L 16 0 (mj_u (mj_u (mj_z (mj_z (mj_z (mj_z (f) 179) 180) 181) 182) 178 4 0) 178 5 0) (by decide) (by decide)
  refine ⟨g1, ?_, fun a q h => ?_, ?_, ?_⟩
  · show mj_run yH_init (wCn L 179 6124 [(178, 0), (31, 0), (2, 10)]) f 0 [.inr (.inl 178), .inr (.inr (.inr 0))] [] = _
    refine ms_aload_n (k := 0) (p' := 1) (by decide +kernel) rfl rfl ?_
    refine mc_obj (idx := 3) (x := 0) (q := 493) (p' := 4) (by decide +kernel) rfl rfl ?_
    refine ms_aload_n (k := 0) (p' := 5) (by decide +kernel) rfl rfl ?_
    refine ms_bipush (n := 16) (v := 16) (p' := 7) (by decide +kernel) rfl ?_
    refine mc_newa (at_ := .int) (kd := 100) (m := 16) (l' := [(178, 0), (31, 0), (2, 10)]) (p' := 9) ⟨by decide +kernel, Or.inl ⟨rfl, rfl⟩, by decide +kernel, by decide +kernel, by decide⟩ ⟨rfl, by decide⟩ (okN_of (by decide +kernel)) rfl ?_
    refine mc_putr (idx := 9) (ci := 1) (k := 0) (q := 496) (l' := [(178, 1), (31, 0), (2, 10)]) (p' := 12) (by decide +kernel) ⟨by decide +kernel, by decide +kernel⟩ (by decide) (okU_of (by decide +kernel)) rfl ?_
    refine ms_aload_n (k := 0) (p' := 13) (by decide +kernel) rfl rfl ?_
    refine ms_bipush (n := 16) (v := 16) (p' := 15) (by decide +kernel) rfl ?_
    refine mc_anew (idx := 15) (q := 494) (m := 16) (l' := [(180, 0), (178, 1), (31, 0), (2, 10)]) (p' := 18) ⟨by decide +kernel, by decide +kernel, by decide +kernel, by decide +kernel, by decide⟩ ⟨rfl, by decide⟩ (okN_of (by decide +kernel)) rfl ?_
    refine mc_putr (idx := 17) (ci := 1) (k := 1) (q := 498) (l' := [(180, 0), (178, 2), (31, 0), (2, 10)]) (p' := 21) (by decide +kernel) ⟨by decide +kernel, by decide +kernel⟩ (by decide) (okU_of (by decide +kernel)) rfl ?_
    refine ms_aload_n (k := 0) (p' := 22) (by decide +kernel) rfl rfl ?_
    refine ms_sipush (n := 320) (v := 320) (p' := 25) (by decide +kernel) rfl ?_
    refine mc_newa (at_ := .int) (kd := 100) (m := 320) (l' := [(180, 0), (178, 2), (31, 0), (2, 10)]) (p' := 27) ⟨by decide +kernel, Or.inl ⟨rfl, rfl⟩, by decide +kernel, by decide +kernel, by decide⟩ ⟨rfl, by decide⟩ (okN_of (by decide +kernel)) rfl ?_
    refine mc_putr (idx := 21) (ci := 1) (k := 2) (q := 500) (l' := [(180, 0), (178, 3), (31, 0), (2, 10)]) (p' := 30) (by decide +kernel) ⟨by decide +kernel, by decide +kernel⟩ (by decide) (okU_of (by decide +kernel)) rfl ?_
    refine ms_aload_n (k := 0) (p' := 31) (by decide +kernel) rfl rfl ?_
    refine ms_bipush (n := 16) (v := 16) (p' := 33) (by decide +kernel) rfl ?_
    refine mc_newa (at_ := .int) (kd := 100) (m := 16) (l' := [(180, 0), (178, 3), (31, 0), (2, 10)]) (p' := 35) ⟨by decide +kernel, Or.inl ⟨rfl, rfl⟩, by decide +kernel, by decide +kernel, by decide⟩ ⟨rfl, by decide⟩ (okN_of (by decide +kernel)) rfl ?_
    refine mc_putr (idx := 24) (ci := 1) (k := 3) (q := 501) (l' := [(180, 0), (31, 0), (2, 10)]) (p' := 38) (by decide +kernel) ⟨by decide +kernel, by decide +kernel⟩ (by decide) (okU_of (by decide +kernel)) rfl ?_
    refine ms_aload_n (k := 0) (p' := 39) (by decide +kernel) rfl rfl ?_
    refine ms_iconst (n := 0) (v := 0) (p' := 40) (by decide +kernel) rfl ?_
    refine ms_puti (idx := 27) (ci := 1) (k := 4) (q := 502) (p' := 43) (by decide +kernel) rfl ((wCn_k (by decide) (by decide)).trans (by decide +kernel)) ?_
    refine ms_aload_n (k := 0) (p' := 44) (by decide +kernel) rfl rfl ?_
    refine ms_iconst (n := 0) (v := 0) (p' := 45) (by decide +kernel) rfl ?_
    refine ms_puti (idx := 31) (ci := 1) (k := 5) (q := 503) (p' := 48) (by decide +kernel) rfl ((wCn_k (by decide) (by decide)).trans (by decide +kernel)) ?_
    refine ms_iconst (n := 0) (v := 0) (p' := 49) (by decide +kernel) rfl ?_
    refine ms_istore_n (k := 1) (ls' := [.inr (.inl 178), .inl 0]) (p' := 50) (by decide +kernel) rfl (Nat.le_of_ble_eq_true rfl) rfl ?_
    refine Eq.trans eg1 ?_
    rw [show wCn L (183 + 2 * 16) (6492 + 39 * 16) ((180, 16) :: [(31, 0), (2, 10)]) = wCn L 215 7116 [(31, 0), (2, 10)] from wCn_e (okE_of (by decide +kernel))]
    show mj_run yH_init (wCn L 215 7116 [(31, 0), (2, 10)]) g1 75 [.inr (.inl 178), .inl 16] [] = _
    exact ms_vret (by decide +kernel)
  · rw [frg1 a q (by omega), u_o (by omega), u_o (by omega), z_o (by omega), z_o (by omega), z_o (by omega), z_o (by omega)]
  · rw [frg1 178 4 (by decide), u_o (by decide), u_self]
  · rw [frg1 178 5 (by decide), u_self]
theorem lp_X (L : Nat) : ∀ (d k : Nat) (f : mj_F), 4 - k = d → k ≤ 4 → ∃ f' : mj_F, mj_run yX_init (wCn L (215 + 2 * k) (7116 + 39 * k) ((31, k) :: [])) f 121 [.inr (.inl 2), .inl (k : Int)] [] = mj_run yX_init (wCn L (215 + 2 * 4) (7116 + 39 * 4) ((31, 4) :: [])) f' 145 [.inr (.inl 2), .inl ((4 : Nat) : Int)] [] ∧ (∀ a q, a < 215 + 2 * k → f' a q = f a q) ∧ ∀ t, k ≤ t → t < 4 → f' (215 + 2 * t) 1 = 1 ∧ f' (215 + 2 * t) 2 = 0 ∧ f' (215 + 2 * t + 1) 0 = 1 := by
  intro d
  induction d with
  | zero =>
    intro k f h1 h2
    have : k = 4 := by omega
    subst this
    refine ⟨f, ?_, fun _ _ _ => rfl, fun t h3 h4 => absurd h4 (by omega)⟩
    refine ms_iload_n (k := 1) (p' := 122) (by decide +kernel) rfl rfl ?_
    refine ms_iconst (n := 4) (v := 4) (p' := 123) (by decide +kernel) rfl ?_
    exact (ms_icmp_ge (off := 22) (t := 145) (p' := 126) (X2 := none) (by decide +kernel) rfl (fun _ => rfl) (fun q => absurd (by omega) q)).trans (if_pos (by omega))
  | succ d ih =>
    intro k f h1 h2
    have hk : k < 4 := by omega
    have hz := zn215 hk
    have hzk := (zn_at (sw := false) hz).1.1
    have hrk : wk_ref false 31 k = 215 + 2 * k := by
      have := List.all_eq_true.mp rz31_all k (List.mem_range.mpr hk)
      simp only [Bool.and_eq_true, decide_eq_true_eq] at this
      exact this.1.2
    obtain ⟨f', e, fr, fa⟩ := ih (k + 1) (zF f (215 + 2 * k)) (by omega) (by omega)
    refine ⟨f', ?_, fun a q h => ?_, fun t h3 h4 => ?_⟩
    · refine ms_iload_n (k := 1) (p' := 122) (by decide +kernel) rfl rfl ?_
      refine ms_iconst (n := 4) (v := 4) (p' := 123) (by decide +kernel) rfl ?_
      refine (ms_icmp_ge (off := 22) (t := 145) (p' := 126) (X1 := none) (by decide +kernel) rfl (fun q => absurd q (by omega)) (fun _ => rfl)).trans ((if_neg (by omega)).trans ?_)
      refine ms_aload_n (k := 0) (p' := 127) (by decide +kernel) rfl rfl ?_
      refine ms_getr (idx := 25) (ci := 8) (k := 2) (q := 520) (r := 31) (p' := 130) (by decide +kernel) rfl ((wCn_k (by decide) (by omega)).trans (by decide +kernel)) ((wCn_r (by decide) (by omega) rfl).trans (by decide +kernel)) (by decide) ?_
      refine ms_iload_n (k := 1) (p' := 131) (by decide +kernel) rfl rfl ?_
      refine mc_zone (ix := 23) (iy := 29) (q1 := 349) (q2 := 352) (p' := 138) ⟨⟨by decide +kernel, by decide +kernel⟩, by decide +kernel, ⟨by decide +kernel, by decide +kernel⟩, by decide +kernel, by decide +kernel⟩ hz (fun _ => pdB_no (by simp only [List.map_cons, List.map_nil, List.mem_cons, List.not_mem_nil, or_false]; omega)) rfl rfl ?_
      refine mc_aast (k := k) (m := 4) (l' := (31, k + 1) :: []) (p' := 139) (by decide +kernel) ⟨by decide +kernel, hrk, hzk⟩ ⟨⟨by decide, by omega⟩, ⟨by omega, by omega⟩, hk⟩ (fun x y _ => pd_step (fun _ => pdB_no (by decide)) x y) rfl ?_
      refine ms_iinc (k := 1) (n := 1) (ls' := [.inr (.inl 2), .inl (mj_w ((k : Int) + 1))]) (p' := 142) (by decide +kernel) rfl rfl rfl ?_
      refine ms_goto (off := (-21)) (p' := 121) (by decide +kernel) ?_
      rw [wS (by omega), show 215 + 2 * k + 2 = 215 + 2 * (k + 1) by omega, show 7116 + 39 * k + 39 = 7116 + 39 * (k + 1) by omega]
      exact e
    · rw [fr a q (by omega), zF_o (by omega) (by omega)]
    · by_cases ht : t = k
      · subst ht
        rw [fr _ _ (by omega), fr _ _ (by omega), fr _ _ (by omega)]
        exact ⟨zF_1, zF_2, zF_c⟩
      · exact fa t (by omega) h4
theorem ci_X (L : Nat) (f : mj_F) : ∃ f' : mj_F, mj_call yX_init (wCn L 3 11 [(2, 0)]) f [.inr (.inl 2)] = some (wCn L 223 7272 [], f', none) ∧ (∀ a q, a < 2 → f' a q = f a q) ∧ f' 3 1 = 0 ∧ f' 3 8 = 0 ∧ f' 3 9 = (-1) ∧ f' 18 0 = 0 ∧ f' 18 1 = 0 ∧ f' 18 2 = 0 ∧ f' 18 3 = 0 ∧ f' 18 4 = 0 ∧ f' 37 9 = 0 ∧ f' 168 1 = 0 ∧ f' 170 4 = 1 ∧ f' 178 4 = 0 ∧ f' 178 5 = 0 ∧ f' 215 1 = 1 ∧ f' 215 2 = 0 ∧ f' 216 0 = 1 ∧ f' 217 1 = 1 ∧ f' 217 2 = 0 ∧ f' 218 0 = 1 ∧ f' 219 1 = 1 ∧ f' 219 2 = 0 ∧ f' 220 0 = 1 ∧ f' 221 1 = 1 ∧ f' 221 2 = 0 ∧ f' 222 0 = 1 := by
  obtain ⟨g1, eg1, frg1, fag1_0, fag1_1, fag1_2⟩ := ci_R L (mj_z (f) 3)
  obtain ⟨g2, eg2, frg2⟩ := ci_L18 L (mj_z (g1) 18)
  obtain ⟨g3, eg3, frg3, fag3_0⟩ := ci_G L (mj_z (mj_z (zF (zF (mj_z (g2) 31) 32) 34) 36) 37)
  obtain ⟨g4, eg4, frg4, fag4_0⟩ := ci_P L (mj_z (g3) 168)
  obtain ⟨g5, eg5, frg5, fag5_0⟩ := ci_T L (mj_z (g4) 170)
  obtain ⟨g6, eg6, frg6⟩ := ci_W L (mj_z (g5) 175)
  obtain ⟨g7, eg7, frg7, fag7_0, fag7_1⟩ := ci_H L (mj_z (g6) 178)
  obtain ⟨g8, eg8, frg8, fag8⟩ := lp_X L 4 0 (g7) (by decide) (by decide)
  refine ⟨g8, ?_, fun a q h => ?_, ?_, ?_, ?_, ?_, ?_, ?_, ?_, ?_, ?_, ?_, ?_, ?_, ?_, ?_, ?_, ?_, ?_, ?_, ?_, ?_, ?_, ?_, ?_, ?_, ?_⟩
  · show mj_run yX_init (wCn L 3 11 [(2, 0)]) f 0 [.inr (.inl 2), .inr (.inr (.inr 0))] [] = _
    refine ms_aload_n (k := 0) (p' := 1) (by decide +kernel) rfl rfl ?_
    refine mc_obj (idx := 3) (x := 0) (q := 185) (p' := 4) (by decide +kernel) rfl rfl ?_
    refine ms_aload_n (k := 0) (p' := 5) (by decide +kernel) rfl rfl ?_
    refine mc_new (idx := 9) (ci := 4) (q := 188) (z := 10) (l' := [(3, 0), (2, 0)]) (p' := 8) ⟨⟨by decide +kernel, by decide +kernel⟩, ⟨by decide, by decide +kernel, by decide +kernel⟩, by decide +kernel, by decide⟩ (okN_of (by decide +kernel)) rfl ?_
    refine ms_dup_a (p' := 9) (by decide +kernel) rfl ?_
    refine mc_ctor (idx := 11) (cy := yR_init) (kd := 5) (q := 190) (p' := 12) ⟨by decide +kernel, by decide +kernel, by decide, by decide +kernel, by decide +kernel, by decide +kernel⟩ ((wCn_k (by decide) (by decide)).trans (by decide +kernel)) rfl rfl eg1 ?_
    refine mc_putr (idx := 12) (ci := 8) (k := 0) (q := 518) (l' := [(2, 1)]) (p' := 15) (by decide +kernel) ⟨by decide +kernel, by decide +kernel⟩ (by decide) (okU_of (by decide +kernel)) rfl ?_
    refine ms_aload_n (k := 0) (p' := 16) (by decide +kernel) rfl rfl ?_
    refine mc_new (idx := 16) (ci := 3) (q := 347) (z := 18) (l' := [(18, 0), (2, 1)]) (p' := 19) ⟨⟨by decide +kernel, by decide +kernel⟩, ⟨by decide, by decide +kernel, by decide +kernel⟩, by decide +kernel, by decide⟩ (okN_of (by decide +kernel)) rfl ?_
    refine ms_dup_a (p' := 20) (by decide +kernel) rfl ?_
    refine mc_ctor (idx := 18) (cy := yL_init) (kd := 5) (q := 348) (p' := 23) ⟨by decide +kernel, by decide +kernel, by decide, by decide +kernel, by decide +kernel, by decide +kernel⟩ ((wCn_k (by decide) (by decide)).trans (by decide +kernel)) rfl rfl eg2 ?_
    refine mc_putr (idx := 19) (ci := 8) (k := 1) (q := 519) (l' := [(2, 2)]) (p' := 26) (by decide +kernel) ⟨by decide +kernel, by decide +kernel⟩ (by decide) (okU_of (by decide +kernel)) rfl ?_
    refine ms_aload_n (k := 0) (p' := 27) (by decide +kernel) rfl rfl ?_
    refine ms_iconst (n := 4) (v := 4) (p' := 28) (by decide +kernel) rfl ?_
    refine mc_anew (idx := 23) (q := 349) (m := 4) (l' := [(31, 0), (2, 2)]) (p' := 31) ⟨by decide +kernel, by decide +kernel, by decide +kernel, by decide +kernel, by decide⟩ ⟨rfl, by decide⟩ (okN_of (by decide +kernel)) rfl ?_
    refine mc_putr (idx := 25) (ci := 8) (k := 2) (q := 520) (l' := [(31, 0), (2, 3)]) (p' := 34) (by decide +kernel) ⟨by decide +kernel, by decide +kernel⟩ (by decide) (okU_of (by decide +kernel)) rfl ?_
    refine ms_aload_n (k := 0) (p' := 35) (by decide +kernel) rfl rfl ?_
    refine mc_zone (ix := 23) (iy := 29) (q1 := 349) (q2 := 352) (p' := 42) ⟨⟨by decide +kernel, by decide +kernel⟩, by decide +kernel, ⟨by decide +kernel, by decide +kernel⟩, by decide +kernel, by decide +kernel⟩ (by decide +kernel) (fun _ => pdB_no (by decide)) rfl rfl ?_
    refine mc_putr (idx := 30) (ci := 8) (k := 3) (q := 521) (l' := [(31, 0), (2, 4)]) (p' := 45) (by decide +kernel) ⟨by decide +kernel, by decide +kernel⟩ (by decide) (okU_of (by decide +kernel)) rfl ?_
    refine ms_aload_n (k := 0) (p' := 46) (by decide +kernel) rfl rfl ?_
    refine mc_zone (ix := 23) (iy := 29) (q1 := 349) (q2 := 352) (p' := 53) ⟨⟨by decide +kernel, by decide +kernel⟩, by decide +kernel, ⟨by decide +kernel, by decide +kernel⟩, by decide +kernel, by decide +kernel⟩ (by decide +kernel) (fun _ => pdB_no (by decide)) rfl rfl ?_
    refine mc_putr (idx := 34) (ci := 8) (k := 4) (q := 522) (l' := [(31, 0), (2, 5)]) (p' := 56) (by decide +kernel) ⟨by decide +kernel, by decide +kernel⟩ (by decide) (okU_of (by decide +kernel)) rfl ?_
    refine ms_aload_n (k := 0) (p' := 57) (by decide +kernel) rfl rfl ?_
    refine ms_bipush (n := 6) (v := 6) (p' := 59) (by decide +kernel) rfl ?_
    refine mc_newa (at_ := .int) (kd := 100) (m := 6) (l' := [(31, 0), (2, 5)]) (p' := 61) ⟨by decide +kernel, Or.inl ⟨rfl, rfl⟩, by decide +kernel, by decide +kernel, by decide⟩ ⟨rfl, by decide⟩ (okN_of (by decide +kernel)) rfl ?_
    refine mc_putr (idx := 37) (ci := 8) (k := 5) (q := 523) (l' := [(31, 0), (2, 6)]) (p' := 64) (by decide +kernel) ⟨by decide +kernel, by decide +kernel⟩ (by decide) (okU_of (by decide +kernel)) rfl ?_
    refine ms_aload_n (k := 0) (p' := 65) (by decide +kernel) rfl rfl ?_
    refine mc_new (idx := 41) (ci := 0) (q := 373) (z := 10) (l' := [(37, 0), (31, 0), (2, 6)]) (p' := 68) ⟨⟨by decide +kernel, by decide +kernel⟩, ⟨by decide, by decide +kernel, by decide +kernel⟩, by decide +kernel, by decide⟩ (okN_of (by decide +kernel)) rfl ?_
    refine ms_dup_a (p' := 69) (by decide +kernel) rfl ?_
    refine mc_ctor (idx := 43) (cy := yG_init) (kd := 5) (q := 375) (p' := 72) ⟨by decide +kernel, by decide +kernel, by decide, by decide +kernel, by decide +kernel, by decide +kernel⟩ ((wCn_k (by decide) (by decide)).trans (by decide +kernel)) rfl rfl eg3 ?_
    refine mc_putr (idx := 44) (ci := 8) (k := 6) (q := 524) (l' := [(31, 0), (2, 7)]) (p' := 75) (by decide +kernel) ⟨by decide +kernel, by decide +kernel⟩ (by decide) (okU_of (by decide +kernel)) rfl ?_
    refine ms_aload_n (k := 0) (p' := 76) (by decide +kernel) rfl rfl ?_
    refine mc_new (idx := 48) (ci := 2) (q := 421) (z := 2) (l' := [(168, 0), (31, 0), (2, 7)]) (p' := 79) ⟨⟨by decide +kernel, by decide +kernel⟩, ⟨by decide, by decide +kernel, by decide +kernel⟩, by decide +kernel, by decide⟩ (okN_of (by decide +kernel)) rfl ?_
    refine ms_dup_a (p' := 80) (by decide +kernel) rfl ?_
    refine mc_ctor (idx := 50) (cy := yP_init) (kd := 5) (q := 423) (p' := 83) ⟨by decide +kernel, by decide +kernel, by decide, by decide +kernel, by decide +kernel, by decide +kernel⟩ ((wCn_k (by decide) (by decide)).trans (by decide +kernel)) rfl rfl eg4 ?_
    refine mc_putr (idx := 51) (ci := 8) (k := 7) (q := 525) (l' := [(31, 0), (2, 8)]) (p' := 86) (by decide +kernel) ⟨by decide +kernel, by decide +kernel⟩ (by decide) (okU_of (by decide +kernel)) rfl ?_
    refine ms_aload_n (k := 0) (p' := 87) (by decide +kernel) rfl rfl ?_
    refine mc_new (idx := 55) (ci := 5) (q := 440) (z := 8) (l' := [(170, 0), (31, 0), (2, 8)]) (p' := 90) ⟨⟨by decide +kernel, by decide +kernel⟩, ⟨by decide, by decide +kernel, by decide +kernel⟩, by decide +kernel, by decide⟩ (okN_of (by decide +kernel)) rfl ?_
    refine ms_dup_a (p' := 91) (by decide +kernel) rfl ?_
    refine mc_ctor (idx := 57) (cy := yT_init) (kd := 5) (q := 442) (p' := 94) ⟨by decide +kernel, by decide +kernel, by decide, by decide +kernel, by decide +kernel, by decide +kernel⟩ ((wCn_k (by decide) (by decide)).trans (by decide +kernel)) rfl rfl eg5 ?_
    refine mc_putr (idx := 58) (ci := 8) (k := 8) (q := 526) (l' := [(31, 0), (2, 9)]) (p' := 97) (by decide +kernel) ⟨by decide +kernel, by decide +kernel⟩ (by decide) (okU_of (by decide +kernel)) rfl ?_
    refine ms_aload_n (k := 0) (p' := 98) (by decide +kernel) rfl rfl ?_
    refine mc_new (idx := 62) (ci := 6) (q := 475) (z := 1) (l' := [(175, 0), (31, 0), (2, 9)]) (p' := 101) ⟨⟨by decide +kernel, by decide +kernel⟩, ⟨by decide, by decide +kernel, by decide +kernel⟩, by decide +kernel, by decide⟩ (okN_of (by decide +kernel)) rfl ?_
    refine ms_dup_a (p' := 102) (by decide +kernel) rfl ?_
    refine mc_ctor (idx := 64) (cy := yW_init) (kd := 5) (q := 477) (p' := 105) ⟨by decide +kernel, by decide +kernel, by decide, by decide +kernel, by decide +kernel, by decide +kernel⟩ ((wCn_k (by decide) (by decide)).trans (by decide +kernel)) rfl rfl eg6 ?_
    refine mc_putr (idx := 65) (ci := 8) (k := 9) (q := 527) (l' := [(31, 0), (2, 10)]) (p' := 108) (by decide +kernel) ⟨by decide +kernel, by decide +kernel⟩ (by decide) (okU_of (by decide +kernel)) rfl ?_
    refine ms_aload_n (k := 0) (p' := 109) (by decide +kernel) rfl rfl ?_
    refine mc_new (idx := 69) (ci := 1) (q := 488) (z := 6) (l' := [(178, 0), (31, 0), (2, 10)]) (p' := 112) ⟨⟨by decide +kernel, by decide +kernel⟩, ⟨by decide, by decide +kernel, by decide +kernel⟩, by decide +kernel, by decide⟩ (okN_of (by decide +kernel)) rfl ?_
    refine ms_dup_a (p' := 113) (by decide +kernel) rfl ?_
    refine mc_ctor (idx := 71) (cy := yH_init) (kd := 5) (q := 490) (p' := 116) ⟨by decide +kernel, by decide +kernel, by decide, by decide +kernel, by decide +kernel, by decide +kernel⟩ ((wCn_k (by decide) (by decide)).trans (by decide +kernel)) rfl rfl eg7 ?_
    refine mc_putr (idx := 72) (ci := 8) (k := 10) (q := 528) (l' := [(31, 0)]) (p' := 119) (by decide +kernel) ⟨by decide +kernel, by decide +kernel⟩ (by decide) (okU_of (by decide +kernel)) rfl ?_
    refine ms_iconst (n := 0) (v := 0) (p' := 120) (by decide +kernel) rfl ?_
    refine ms_istore_n (k := 1) (ls' := [.inr (.inl 2), .inl 0]) (p' := 121) (by decide +kernel) rfl (Nat.le_of_ble_eq_true rfl) rfl ?_
    refine Eq.trans eg8 ?_
    rw [show wCn L (215 + 2 * 4) (7116 + 39 * 4) ((31, 4) :: []) = wCn L 223 7272 [] from wCn_e (okE_of (by decide +kernel))]
    show mj_run yX_init (wCn L 223 7272 []) g8 145 [.inr (.inl 2), .inl 4] [] = _
    exact ms_vret (by decide +kernel)
  · rw [frg8 a q (by omega), frg7 a q (by omega), z_o (by omega), frg6 a q (by omega), z_o (by omega), frg5 a q (by omega), z_o (by omega), frg4 a q (by omega), z_o (by omega), frg3 a q (by omega), z_o (by omega), z_o (by omega), zF_o (by omega) (by omega), zF_o (by omega) (by omega), z_o (by omega), frg2 a q (by omega), z_o (by omega), frg1 a q (by omega), z_o (by omega)]
  · rw [frg8 3 1 (by decide), frg7 3 1 (by decide), z_o (by decide), frg6 3 1 (by decide), z_o (by decide), frg5 3 1 (by decide), z_o (by decide), frg4 3 1 (by decide), z_o (by decide), frg3 3 1 (by decide), z_o (by decide), z_o (by decide), zF_o (by decide) (by decide), zF_o (by decide) (by decide), z_o (by decide), frg2 3 1 (by decide), z_o (by decide), fag1_0]
  · rw [frg8 3 8 (by decide), frg7 3 8 (by decide), z_o (by decide), frg6 3 8 (by decide), z_o (by decide), frg5 3 8 (by decide), z_o (by decide), frg4 3 8 (by decide), z_o (by decide), frg3 3 8 (by decide), z_o (by decide), z_o (by decide), zF_o (by decide) (by decide), zF_o (by decide) (by decide), z_o (by decide), frg2 3 8 (by decide), z_o (by decide), fag1_1]
  · rw [frg8 3 9 (by decide), frg7 3 9 (by decide), z_o (by decide), frg6 3 9 (by decide), z_o (by decide), frg5 3 9 (by decide), z_o (by decide), frg4 3 9 (by decide), z_o (by decide), frg3 3 9 (by decide), z_o (by decide), z_o (by decide), zF_o (by decide) (by decide), zF_o (by decide) (by decide), z_o (by decide), frg2 3 9 (by decide), z_o (by decide), fag1_2]
  · rw [frg8 18 0 (by decide), frg7 18 0 (by decide), z_o (by decide), frg6 18 0 (by decide), z_o (by decide), frg5 18 0 (by decide), z_o (by decide), frg4 18 0 (by decide), z_o (by decide), frg3 18 0 (by decide), z_o (by decide), z_o (by decide), zF_o (by decide) (by decide), zF_o (by decide) (by decide), z_o (by decide), frg2 18 0 (by decide), z_s]
  · rw [frg8 18 1 (by decide), frg7 18 1 (by decide), z_o (by decide), frg6 18 1 (by decide), z_o (by decide), frg5 18 1 (by decide), z_o (by decide), frg4 18 1 (by decide), z_o (by decide), frg3 18 1 (by decide), z_o (by decide), z_o (by decide), zF_o (by decide) (by decide), zF_o (by decide) (by decide), z_o (by decide), frg2 18 1 (by decide), z_s]
  · rw [frg8 18 2 (by decide), frg7 18 2 (by decide), z_o (by decide), frg6 18 2 (by decide), z_o (by decide), frg5 18 2 (by decide), z_o (by decide), frg4 18 2 (by decide), z_o (by decide), frg3 18 2 (by decide), z_o (by decide), z_o (by decide), zF_o (by decide) (by decide), zF_o (by decide) (by decide), z_o (by decide), frg2 18 2 (by decide), z_s]
  · rw [frg8 18 3 (by decide), frg7 18 3 (by decide), z_o (by decide), frg6 18 3 (by decide), z_o (by decide), frg5 18 3 (by decide), z_o (by decide), frg4 18 3 (by decide), z_o (by decide), frg3 18 3 (by decide), z_o (by decide), z_o (by decide), zF_o (by decide) (by decide), zF_o (by decide) (by decide), z_o (by decide), frg2 18 3 (by decide), z_s]
  · rw [frg8 18 4 (by decide), frg7 18 4 (by decide), z_o (by decide), frg6 18 4 (by decide), z_o (by decide), frg5 18 4 (by decide), z_o (by decide), frg4 18 4 (by decide), z_o (by decide), frg3 18 4 (by decide), z_o (by decide), z_o (by decide), zF_o (by decide) (by decide), zF_o (by decide) (by decide), z_o (by decide), frg2 18 4 (by decide), z_s]
  · rw [frg8 37 9 (by decide), frg7 37 9 (by decide), z_o (by decide), frg6 37 9 (by decide), z_o (by decide), frg5 37 9 (by decide), z_o (by decide), frg4 37 9 (by decide), z_o (by decide), fag3_0]
  · rw [frg8 168 1 (by decide), frg7 168 1 (by decide), z_o (by decide), frg6 168 1 (by decide), z_o (by decide), frg5 168 1 (by decide), z_o (by decide), fag4_0]
  · rw [frg8 170 4 (by decide), frg7 170 4 (by decide), z_o (by decide), frg6 170 4 (by decide), z_o (by decide), fag5_0]
  · rw [frg8 178 4 (by decide), fag7_0]
  · rw [frg8 178 5 (by decide), fag7_1]
  · rw [(fag8 0 (by decide) (by decide)).1]
  · rw [(fag8 0 (by decide) (by decide)).2.1]
  · rw [(fag8 0 (by decide) (by decide)).2.2]
  · rw [(fag8 1 (by decide) (by decide)).1]
  · rw [(fag8 1 (by decide) (by decide)).2.1]
  · rw [(fag8 1 (by decide) (by decide)).2.2]
  · rw [(fag8 2 (by decide) (by decide)).1]
  · rw [(fag8 2 (by decide) (by decide)).2.1]
  · rw [(fag8 2 (by decide) (by decide)).2.2]
  · rw [(fag8 3 (by decide) (by decide)).1]
  · rw [(fag8 3 (by decide) (by decide)).2.1]
  · rw [(fag8 3 (by decide) (by decide)).2.2]
