/-! text(): what the class does. -/
section MSP
variable {y : Nat} {w w' : mj_W} {f f' : mj_F} {pc p' : Nat} {ls ls' st st' : List mj_V} {X : Option mj_O}
theorem ms_putr {idx ci k q a v : Nat} (d : mj_dec y pc = some (.putfield idx) ∧ mj_fl (mj_cn y) idx = some (ci, k, q) ∧ mj_kind ci k = 2 ∧ mj_mayPut y ci k = true ∧ mj_imp y = true) (hp : pc + 3 = p') (hw : w.1 a = (ci, 0)) (hv : 2 ≤ v) (h : mj_run y (mj_ug w a k v) f p' ls st = X) : mj_run y w f pc ls (.inr (.inl v) :: .inr (.inl a) :: st) = X := by
  obtain ⟨d, hf, hk, hm, hi⟩ := d
  subst hp
  rw [← h]
  refine mj_run_step ?_
  simp only [mj_nx, d, if_pos (Or.inl hi : mj_imp y = true ∨ mj_keepw y (.putfield idx) = true), mj_end, mj_callee, mj_stp, mj_putf, hf, hm, if_true, if_pos (show w.1 a = (ci, 0) ∧ mj_kind ci k = 2 ∧ 2 ≤ v from ⟨hw, hk, hv⟩)]
end MSP
/-- the plans change places -/
def swW (sw : Bool) (w : mj_W) : mj_W := mj_ug (mj_ug w 2 1 (fr sw)) 3 2 (pl sw)
theorem pl_n (sw : Bool) : pl (!sw) = fr sw := by cases sw <;> rfl
theorem fr_n (sw : Bool) : fr (!sw) = pl sw := by cases sw <;> rfl
theorem wk_sw {sw : Bool} {w : mj_W} (hw : wk sw w) : wk (!sw) (swW sw w) := by
  obtain ⟨h1, h2, h3⟩ := hw
  refine ⟨h1, fun a k ha hb => ?_, h3⟩
  show (if a = 3 ∧ k = 2 then pl sw else if a = 2 ∧ k = 1 then fr sw else w.2.1 a k) = wk_ref (!sw) a k
  unfold wk_ref
  rw [pl_n, fr_n]
  by_cases e1 : a = 2 ∧ k = 1
  · rw [if_neg (by omega), if_pos e1, if_pos e1]
  · rw [if_neg e1, if_neg e1]
    by_cases e2 : a = 3 ∧ k = 2
    · rw [if_pos e2, if_pos e2]
    · rw [if_neg e2, if_neg e2, h2 a k ha hb]
      unfold wk_ref
      rw [if_neg e1, if_neg e2]
theorem pl2 (sw : Bool) : 2 ≤ pl sw := by cases sw <;> decide
theorem fr2 (sw : Bool) : 2 ≤ fr sw := by cases sw <;> decide
theorem c_X_text {sw : Bool} {w : mj_W} (hw : wk sw w) (f : mj_F) (x1 : Int) : mj_call yX_text w f [.inr (.inl 2), .inl x1] = if x1 < 0 then some (w, f, some (.inl (-2))) else if x1 ≤ f 3 1 then mj_bi (mj_call yR_readText w (mj_u f 3 1 0) [.inr (.inl 3), .inl x1]) (fun f1 v2 => if ¬ v2 = 0 then mj_bu (mj_call yX_beginAnew (swW sw w) f1 [.inr (.inl 2)]) (fun f2 => mj_bu (mj_call yG_build (swW sw w) f2 [.inr (.inl 37), .inr (.inl (fr sw))]) (fun f3 => some (swW sw w, f3, some (.inl (f3 (fr sw) 0))))) else some (w, f1, some (.inl (-1)))) else some (w, f, some (.inl (-2))) := by
  have hw' := wk_sw hw
  have r1 : (swW sw w).2.1 2 1 = fr sw := by have := r_2_1 hw'; rw [pl_n] at this; exact this
  have k2 : (mj_ug w 2 1 (fr sw)).1 2 = (8, 0) := by show w.1 2 = (8, 0); exact k_2 hw
  have k3 : (mj_ug w 2 1 (fr sw)).1 3 = (4, 0) := by show w.1 3 = (4, 0); exact k_3 hw
  have r20 : (mj_ug w 2 1 (fr sw)).2.1 2 0 = 3 := by
    show (if (2 : Nat) = 2 ∧ (0 : Nat) = 1 then fr sw else w.2.1 2 0) = 3
    rw [if_neg (by decide)]
    exact r_2_0 hw
  show mj_run yX_text w f 0 [.inr (.inl 2), .inl x1, .inr (.inr (.inr 0))] [] = _
  refine ms_iload_n (k := 1) (p' := 1) (by decide +kernel) rfl rfl ?_
  refine ms_if_lt (off := 14) (t := 15) (p' := 4) (by decide +kernel) rfl (fun hc => ?_) (fun hc => ?_)
  · refine ms_bipush (n := -2) (v := -2) (p' := 17) (by decide +kernel) rfl ?_
    exact ms_iret (by decide +kernel)
  refine ms_iload_n (k := 1) (p' := 5) (by decide +kernel) rfl rfl ?_
  refine ms_aload_n (k := 0) (p' := 6) (by decide +kernel) rfl rfl ?_
  refine ms_getr (idx := 12) (ci := 8) (k := 0) (q := 518) (p' := 9) (by decide +kernel) rfl (k_2 hw) (r_2_0 hw) (by decide) ?_
  refine ms_geti (idx := 76) (ci := 4) (k := 1) (q := 314) (p' := 12) (by decide +kernel) rfl (k_3 hw) ?_
  refine ms_icmp_le (off := 6) (t := 18) (p' := 15) (by decide +kernel) rfl (fun hc2 => ?_) (fun hc2 => ?_)
  rotate_left
  · refine ms_bipush (n := -2) (v := -2) (p' := 17) (by decide +kernel) rfl ?_
    exact ms_iret (by decide +kernel)
  refine ms_aload_n (k := 0) (p' := 19) (by decide +kernel) rfl rfl ?_
  refine ms_getr (idx := 12) (ci := 8) (k := 0) (q := 518) (p' := 22) (by decide +kernel) rfl (k_2 hw) (r_2_0 hw) (by decide) ?_
  refine ms_iconst (n := 0) (v := 0) (p' := 23) (by decide +kernel) rfl ?_
  refine ms_puti (idx := 76) (ci := 4) (k := 1) (q := 314) (p' := 26) (by decide +kernel) rfl (k_3 hw) ?_
  refine ms_aload_n (k := 0) (p' := 27) (by decide +kernel) rfl rfl ?_
  refine ms_getr (idx := 12) (ci := 8) (k := 0) (q := 518) (p' := 30) (by decide +kernel) rfl (k_2 hw) (r_2_0 hw) (by decide) ?_
  refine ms_iload_n (k := 1) (p' := 31) (by decide +kernel) rfl rfl ?_
  refine ms_virt_i (idx := 84) (cy := yR_readText) (n := 1) (a := 3) (as := [.inl x1]) (rest := []) (p' := 34) (by decide +kernel) rfl rfl rfl rfl (k_3 hw) rfl (fun f1 v2 => ?_)
  refine ms_if_ne (off := 5) (t := 39) (p' := 37) (by decide +kernel) rfl (fun hc3 => ?_) (fun hc3 => ?_)
  rotate_left
  · refine ms_iconst (n := -1) (v := -1) (p' := 38) (by decide +kernel) rfl ?_
    exact ms_iret (by decide +kernel)
  refine ms_aload_n (k := 0) (p' := 40) (by decide +kernel) rfl rfl ?_
  refine ms_getr (idx := 19) (ci := 8) (k := 1) (q := 519) (p' := 43) (by decide +kernel) rfl (k_2 hw) (r_2_1 hw) (by have := pl2 sw; omega) ?_
  refine ms_astore_n (k := 2) (p' := 44) (ls' := [.inr (.inl 2), .inl x1, .inr (.inl (pl sw))]) (by decide +kernel) rfl (Nat.lt_succ_self 2) rfl ?_
  refine ms_aload_n (k := 0) (p' := 45) (by decide +kernel) rfl rfl ?_
  refine ms_aload_n (k := 0) (p' := 46) (by decide +kernel) rfl rfl ?_
  refine ms_getr (idx := 12) (ci := 8) (k := 0) (q := 518) (p' := 49) (by decide +kernel) rfl (k_2 hw) (r_2_0 hw) (by decide) ?_
  refine ms_getr (idx := 88) (ci := 4) (k := 2) (q := 316) (p' := 52) (by decide +kernel) rfl (k_3 hw) (r_3_2 hw) (by have := fr2 sw; omega) ?_
  refine ms_putr (idx := 19) (ci := 8) (k := 1) (q := 519) (p' := 55) (by decide +kernel) rfl (k_2 hw) (fr2 sw) ?_
  refine ms_aload_n (k := 0) (p' := 56) (by decide +kernel) rfl rfl ?_
  refine ms_getr (idx := 12) (ci := 8) (k := 0) (q := 518) (p' := 59) (r := 3) (by decide +kernel) rfl k2 r20 (by decide) ?_
  refine ms_aload_n (k := 2) (p' := 60) (by decide +kernel) rfl rfl ?_
  refine ms_putr (idx := 88) (ci := 4) (k := 2) (q := 316) (p' := 63) (by decide +kernel) rfl k3 (pl2 sw) ?_
  show mj_run yX_text (swW sw w) f1 63 _ [] = _
  refine ms_aload_n (k := 0) (p' := 64) (by decide +kernel) rfl rfl ?_
  refine ms_virt_u (idx := 91) (cy := yX_beginAnew) (n := 0) (a := 2) (as := []) (rest := []) (p' := 67) (by decide +kernel) rfl rfl rfl rfl (k_2 hw') rfl (fun f2 => ?_)
  refine ms_aload_n (k := 0) (p' := 68) (by decide +kernel) rfl rfl ?_
  refine ms_getr (idx := 44) (ci := 8) (k := 6) (q := 524) (p' := 71) (by decide +kernel) rfl (k_2 hw') (r_2_6 hw') (by decide) ?_
  refine ms_aload_n (k := 0) (p' := 72) (by decide +kernel) rfl rfl ?_
  refine ms_getr (idx := 19) (ci := 8) (k := 1) (q := 519) (p' := 75) (by decide +kernel) rfl (k_2 hw') r1 (by have := fr2 sw; omega) ?_
  refine ms_virt_u (idx := 94) (cy := yG_build) (n := 1) (a := 37) (as := [.inr (.inl (fr sw))]) (rest := []) (p' := 78) (by decide +kernel) rfl rfl rfl rfl (k_37 hw') rfl (fun f3 => ?_)
  refine ms_aload_n (k := 0) (p' := 79) (by decide +kernel) rfl rfl ?_
  refine ms_getr (idx := 19) (ci := 8) (k := 1) (q := 519) (p' := 82) (by decide +kernel) rfl (k_2 hw') r1 (by have := fr2 sw; omega) ?_
  refine ms_geti (idx := 98) (ci := 3) (k := 0) (q := 202) (p' := 85) (by decide +kernel) rfl (pn_k (fr_pn sw) hw') ?_
  exact ms_iret (by decide +kernel)
