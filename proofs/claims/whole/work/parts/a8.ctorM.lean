/-! The reference's constructor. -/
def w9 (w : mj_W) : Prop := w.1 223 = (9, 0) ∧ w.1 234 = (100, 125) ∧ w.1 252 = (100, 3844) ∧ w.2.1 223 16 = 234 ∧ w.2.1 223 51 = 252
theorem d_M_put {w : mj_W} (hw : w9 w) (f : mj_F) (x1 : Int) (x2 : Int) (x3 : Int)  : mj_call yM_put w f [.inr (.inl 223), .inl x1, .inl x2, .inl x3] = mj_gd (0 ≤ (mj_w ((mj_w (62 * x1)) + x2)) ∧ (mj_w ((mj_w (62 * x1)) + x2)) < ((3844 : Nat) : Int)) (some (w, (mj_u f 252 (mj_w ((mj_w (62 * x1)) + x2)).toNat x3), none)) := by
  show mj_run yM_put w f 0 [.inr (.inl 223), .inl x1, .inl x2, .inl x3] [] = _
  refine ms_aload_n (k := 0) (p' := 1) (by decide +kernel) rfl rfl ?_
  refine ms_getr (idx := 102) (ci := 9) (k := 51) (q := 1442) (p' := 4) (by decide +kernel) rfl (hw.1) (hw.2.2.2.2) (by decide) ?_
  refine ms_bipush (n := 62) (v := 62) (p' := 6) (by decide +kernel) rfl ?_
  refine ms_iload_n (k := 1) (p' := 7) (by decide +kernel) rfl rfl ?_
  refine ms_imul (p' := 8) (by decide +kernel) rfl ?_
  refine ms_iload_n (k := 2) (p' := 9) (by decide +kernel) rfl rfl ?_
  refine ms_iadd (p' := 10) (by decide +kernel) rfl ?_
  refine ms_iload_n (k := 3) (p' := 11) (by decide +kernel) rfl rfl ?_
  refine ms_iast (p' := 12) (by decide +kernel) rfl (hw.2.2.1) (fun hj1 => ?_)
  exact ms_vret (by decide +kernel)
theorem d_M_nought {w : mj_W} (hw : w9 w) (f : mj_F)   : mj_call yM_nought w f [.inr (.inl 223)] = mj_run yM_nought w (mj_u (mj_u f 223 52 (mj_w ((f 223 2) + 1))) 223 53 0) 17 [.inr (.inl 223), .inl 0, .inr (.inr (.inr 0))] [] := by
  show mj_run yM_nought w f 0 [.inr (.inl 223), .inr (.inr (.inr 0)), .inr (.inr (.inr 0))] [] = _
  refine ms_aload_n (k := 0) (p' := 1) (by decide +kernel) rfl rfl ?_
  refine ms_aload_n (k := 0) (p' := 2) (by decide +kernel) rfl rfl ?_
  refine ms_geti (idx := 242) (ci := 9) (k := 2) (q := 1393) (p' := 5) (by decide +kernel) rfl (hw.1) ?_
  refine ms_iconst (n := 1) (v := 1) (p' := 6) (by decide +kernel) rfl ?_
  refine ms_iadd (p' := 7) (by decide +kernel) rfl ?_
  refine ms_puti (idx := 280) (ci := 9) (k := 52) (q := 1443) (p' := 10) (by decide +kernel) rfl (hw.1) ?_
  refine ms_aload_n (k := 0) (p' := 11) (by decide +kernel) rfl rfl ?_
  refine ms_iconst (n := 0) (v := 0) (p' := 12) (by decide +kernel) rfl ?_
  refine Eq.trans (ms_putz (idx := 289) (ci := 9) (k := 53) (q := 1444) (p' := 15) (by decide +kernel) rfl (hw.1) (fun _ => ?_)) (mj_gd_pos (by decide) _)
  refine ms_iconst (n := 0) (v := 0) (p' := 16) (by decide +kernel) rfl ?_
  refine ms_istore_n (k := 1) (ls' := [.inr (.inl 223), .inl 0, .inr (.inr (.inr 0))]) (p' := 17) (by decide +kernel) rfl (Nat.le_of_ble_eq_true rfl) rfl ?_
  rfl
theorem e_M_nought_17 {w : mj_W} (hw : w9 w) (f : mj_F) (x1 : Int) (u2 : mj_V)  : mj_run yM_nought w f 17 [.inr (.inl 223), .inl x1, u2] [] = if (f 223 52) ≤ x1 then some (w, f, none) else mj_run yM_nought w f 27 [.inr (.inl 223), .inl x1, .inl 0] [] := by
  refine ms_iload_n (k := 1) (p' := 18) (by decide +kernel) rfl rfl ?_
  refine ms_aload_n (k := 0) (p' := 19) (by decide +kernel) rfl rfl ?_
  refine ms_geti (idx := 280) (ci := 9) (k := 52) (q := 1443) (p' := 22) (by decide +kernel) rfl (hw.1) ?_
  refine ms_icmp_ge (off := 32) (t := 54) (p' := 25) (by decide +kernel) rfl (fun hc => ?_) (fun hc => ?_)
  · exact ms_vret (by decide +kernel)
  · refine ms_iconst (n := 0) (v := 0) (p' := 26) (by decide +kernel) rfl ?_
    refine ms_istore_n (k := 2) (ls' := [.inr (.inl 223), .inl x1, .inl 0]) (p' := 27) (by decide +kernel) rfl (Nat.le_of_ble_eq_true rfl) rfl ?_
    rfl
theorem e_M_nought_27 {w : mj_W} (hw : w9 w) (f : mj_F) (x1 : Int) (x2 : Int)  : mj_run yM_nought w f 27 [.inr (.inl 223), .inl x1, .inl x2] [] = if (f 223 52) ≤ x2 then mj_run yM_nought w f 17 [.inr (.inl 223), .inl (mj_w (x1 + 1)), .inl x2] [] else mj_bu (mj_call yM_put w f [.inr (.inl 223), .inl x1, .inl x2, .inl 1]) (fun f1 => mj_run yM_nought w f1 27 [.inr (.inl 223), .inl x1, .inl (mj_w (x2 + 1))] []) := by
  refine ms_iload_n (k := 2) (p' := 28) (by decide +kernel) rfl rfl ?_
  refine ms_aload_n (k := 0) (p' := 29) (by decide +kernel) rfl rfl ?_
  refine ms_geti (idx := 280) (ci := 9) (k := 52) (q := 1443) (p' := 32) (by decide +kernel) rfl (hw.1) ?_
  refine ms_icmp_ge (off := 16) (t := 48) (p' := 35) (by decide +kernel) rfl (fun hc => ?_) (fun hc => ?_)
  · refine ms_iinc (k := 1) (n := 1) (ls' := [.inr (.inl 223), .inl (mj_w (x1 + 1)), .inl x2]) (p' := 51) (by decide +kernel) rfl rfl rfl ?_
    refine ms_goto (off := (-34)) (p' := 17) (by decide +kernel) ?_
    rfl
  · refine ms_aload_n (k := 0) (p' := 36) (by decide +kernel) rfl rfl ?_
    refine ms_iload_n (k := 1) (p' := 37) (by decide +kernel) rfl rfl ?_
    refine ms_iload_n (k := 2) (p' := 38) (by decide +kernel) rfl rfl ?_
    refine ms_iconst (n := 1) (v := 1) (p' := 39) (by decide +kernel) rfl ?_
    refine ms_virt_u (idx := 276) (cy := yM_put) (n := 3) (a := 223) (as := [.inl x1, .inl x2, .inl 1]) (rest := []) (p' := 42) (by decide +kernel) rfl rfl rfl rfl (hw.1) rfl (fun f1 => ?_)
    refine ms_iinc (k := 2) (n := 1) (ls' := [.inr (.inl 223), .inl x1, .inl (mj_w (x2 + 1))]) (p' := 45) (by decide +kernel) rfl rfl rfl ?_
    refine ms_goto (off := (-18)) (p' := 27) (by decide +kernel) ?_
    rfl
theorem d_M_get {w : mj_W} (hw : w9 w) (f : mj_F) (x1 : Int) (x2 : Int)  : mj_call yM_get w f [.inr (.inl 223), .inl x1, .inl x2] = mj_gd (0 ≤ (mj_w ((mj_w (62 * x1)) + x2)) ∧ (mj_w ((mj_w (62 * x1)) + x2)) < ((3844 : Nat) : Int)) (some (w, f, some (.inl (f 252 (mj_w ((mj_w (62 * x1)) + x2)).toNat)))) := by
  show mj_run yM_get w f 0 [.inr (.inl 223), .inl x1, .inl x2] [] = _
  refine ms_aload_n (k := 0) (p' := 1) (by decide +kernel) rfl rfl ?_
  refine ms_getr (idx := 102) (ci := 9) (k := 51) (q := 1442) (p' := 4) (by decide +kernel) rfl (hw.1) (hw.2.2.2.2) (by decide) ?_
  refine ms_bipush (n := 62) (v := 62) (p' := 6) (by decide +kernel) rfl ?_
  refine ms_iload_n (k := 1) (p' := 7) (by decide +kernel) rfl rfl ?_
  refine ms_imul (p' := 8) (by decide +kernel) rfl ?_
  refine ms_iload_n (k := 2) (p' := 9) (by decide +kernel) rfl rfl ?_
  refine ms_iadd (p' := 10) (by decide +kernel) rfl ?_
  refine ms_iald (p' := 11) (by decide +kernel) rfl (hw.2.2.1) (fun hj1 => ?_)
  exact ms_iret (by decide +kernel)
theorem d_M_stores {w : mj_W} (hw : w9 w) (f : mj_F) (x1 : Int)  : mj_call yM_stores w f [.inr (.inl 223), .inl x1] = mj_run yM_stores w f 2 [.inr (.inl 223), .inl x1, .inl 0, .inr (.inr (.inr 0))] [] := by
  show mj_run yM_stores w f 0 [.inr (.inl 223), .inl x1, .inr (.inr (.inr 0)), .inr (.inr (.inr 0))] [] = _
  refine ms_iconst (n := 0) (v := 0) (p' := 1) (by decide +kernel) rfl ?_
  refine ms_istore_n (k := 2) (ls' := [.inr (.inl 223), .inl x1, .inl 0, .inr (.inr (.inr 0))]) (p' := 2) (by decide +kernel) rfl (Nat.le_of_ble_eq_true rfl) rfl ?_
  rfl
theorem e_M_stores_2 {w : mj_W} (hw : w9 w) (f : mj_F) (x1 : Int) (x2 : Int) (u3 : mj_V)  : mj_run yM_stores w f 2 [.inr (.inl 223), .inl x1, .inl x2, u3] [] = if (f 223 52) ≤ x2 then if (f 223 53) = 0 then mj_gd (0 ≤ (mj_w (100 + x1)) ∧ (mj_w (100 + x1)) < ((125 : Nat) : Int)) (some (w, (mj_u f 234 (mj_w (100 + x1)).toNat 0), none)) else mj_gd (0 ≤ (mj_w (100 + x1)) ∧ (mj_w (100 + x1)) < ((125 : Nat) : Int)) (some (w, (mj_u f 234 (mj_w (100 + x1)).toNat 1), none)) else mj_run yM_stores w f 12 [.inr (.inl 223), .inl x1, .inl x2, .inl 0] [] := by
  refine ms_iload_n (k := 2) (p' := 3) (by decide +kernel) rfl rfl ?_
  refine ms_aload_n (k := 0) (p' := 4) (by decide +kernel) rfl rfl ?_
  refine ms_geti (idx := 280) (ci := 9) (k := 52) (q := 1443) (p' := 7) (by decide +kernel) rfl (hw.1) ?_
  refine ms_icmp_ge (off := 46) (t := 53) (p' := 10) (by decide +kernel) rfl (fun hc => ?_) (fun hc => ?_)
  · refine ms_aload_n (k := 0) (p' := 54) (by decide +kernel) rfl rfl ?_
    refine ms_getr (idx := 44) (ci := 9) (k := 16) (q := 1407) (p' := 57) (by decide +kernel) rfl (hw.1) (hw.2.2.2.1) (by decide) ?_
    refine ms_bipush (n := 100) (v := 100) (p' := 59) (by decide +kernel) rfl ?_
    refine ms_iload_n (k := 1) (p' := 60) (by decide +kernel) rfl rfl ?_
    refine ms_iadd (p' := 61) (by decide +kernel) rfl ?_
    refine ms_aload_n (k := 0) (p' := 62) (by decide +kernel) rfl rfl ?_
    refine ms_geti (idx := 289) (ci := 9) (k := 53) (q := 1444) (p' := 65) (by decide +kernel) rfl (hw.1) ?_
    refine ms_if_eq (off := 7) (t := 72) (p' := 68) (by decide +kernel) rfl (fun hc => ?_) (fun hc => ?_)
    · refine ms_iconst (n := 0) (v := 0) (p' := 73) (by decide +kernel) rfl ?_
      refine ms_iast (p' := 74) (by decide +kernel) rfl (hw.2.1) (fun hj1 => ?_)
      exact ms_vret (by decide +kernel)
    · refine ms_iconst (n := 1) (v := 1) (p' := 69) (by decide +kernel) rfl ?_
      refine ms_goto (off := 4) (p' := 73) (by decide +kernel) ?_
      refine ms_iast (p' := 74) (by decide +kernel) rfl (hw.2.1) (fun hj2 => ?_)
      exact ms_vret (by decide +kernel)
  · refine ms_iconst (n := 0) (v := 0) (p' := 11) (by decide +kernel) rfl ?_
    refine ms_istore_n (k := 3) (ls' := [.inr (.inl 223), .inl x1, .inl x2, .inl 0]) (p' := 12) (by decide +kernel) rfl (Nat.le_of_ble_eq_true rfl) rfl ?_
    rfl
theorem e_M_stores_12 {w : mj_W} (hw : w9 w) (f : mj_F) (x1 : Int) (x2 : Int) (x3 : Int)  : mj_run yM_stores w f 12 [.inr (.inl 223), .inl x1, .inl x2, .inl x3] [] = if (f 223 52) ≤ x3 then mj_run yM_stores w f 2 [.inr (.inl 223), .inl x1, .inl (mj_w (x2 + 1)), .inl x3] [] else mj_bi (mj_call yM_get w f [.inr (.inl 223), .inl x2, .inl x3]) (fun f3 v4 => mj_gd (0 ≤ (mj_w ((mj_w ((mj_w (25 * x1)) + (mj_w (5 * x2)))) + x3)) ∧ (mj_w ((mj_w ((mj_w (25 * x1)) + (mj_w (5 * x2)))) + x3)) < ((125 : Nat) : Int)) (mj_run yM_stores w (mj_u f3 234 (mj_w ((mj_w ((mj_w (25 * x1)) + (mj_w (5 * x2)))) + x3)).toNat v4) 12 [.inr (.inl 223), .inl x1, .inl x2, .inl (mj_w (x3 + 1))] [])) := by
  refine ms_iload_n (k := 3) (p' := 13) (by decide +kernel) rfl rfl ?_
  refine ms_aload_n (k := 0) (p' := 14) (by decide +kernel) rfl rfl ?_
  refine ms_geti (idx := 280) (ci := 9) (k := 52) (q := 1443) (p' := 17) (by decide +kernel) rfl (hw.1) ?_
  refine ms_icmp_ge (off := 30) (t := 47) (p' := 20) (by decide +kernel) rfl (fun hc => ?_) (fun hc => ?_)
  · refine ms_iinc (k := 2) (n := 1) (ls' := [.inr (.inl 223), .inl x1, .inl (mj_w (x2 + 1)), .inl x3]) (p' := 50) (by decide +kernel) rfl rfl rfl ?_
    refine ms_goto (off := (-48)) (p' := 2) (by decide +kernel) ?_
    rfl
  · refine ms_aload_n (k := 0) (p' := 21) (by decide +kernel) rfl rfl ?_
    refine ms_getr (idx := 44) (ci := 9) (k := 16) (q := 1407) (p' := 24) (by decide +kernel) rfl (hw.1) (hw.2.2.2.1) (by decide) ?_
    refine ms_bipush (n := 25) (v := 25) (p' := 26) (by decide +kernel) rfl ?_
    refine ms_iload_n (k := 1) (p' := 27) (by decide +kernel) rfl rfl ?_
    refine ms_imul (p' := 28) (by decide +kernel) rfl ?_
    refine ms_iconst (n := 5) (v := 5) (p' := 29) (by decide +kernel) rfl ?_
    refine ms_iload_n (k := 2) (p' := 30) (by decide +kernel) rfl rfl ?_
    refine ms_imul (p' := 31) (by decide +kernel) rfl ?_
    refine ms_iadd (p' := 32) (by decide +kernel) rfl ?_
    refine ms_iload_n (k := 3) (p' := 33) (by decide +kernel) rfl rfl ?_
    refine ms_iadd (p' := 34) (by decide +kernel) rfl ?_
    refine ms_aload_n (k := 0) (p' := 35) (by decide +kernel) rfl rfl ?_
    refine ms_iload_n (k := 2) (p' := 36) (by decide +kernel) rfl rfl ?_
    refine ms_iload_n (k := 3) (p' := 37) (by decide +kernel) rfl rfl ?_
    refine ms_virt_i (idx := 272) (cy := yM_get) (n := 2) (a := 223) (as := [.inl x2, .inl x3]) (rest := [.inl (mj_w ((mj_w ((mj_w (25 * x1)) + (mj_w (5 * x2)))) + x3)), .inr (.inl 234)]) (p' := 40) (by decide +kernel) rfl rfl rfl rfl (hw.1) rfl (fun f3 v4 => ?_)
    refine ms_iast (p' := 41) (by decide +kernel) rfl (hw.2.1) (fun hj5 => ?_)
    refine ms_iinc (k := 3) (n := 1) (ls' := [.inr (.inl 223), .inl x1, .inl x2, .inl (mj_w (x3 + 1))]) (p' := 44) (by decide +kernel) rfl rfl rfl ?_
    refine ms_goto (off := (-32)) (p' := 12) (by decide +kernel) ?_
    rfl
theorem d_M_laysAll {w : mj_W} (hw : w9 w) (f : mj_F)   : mj_call yM_laysAll w f [.inr (.inl 223)] = mj_run yM_laysAll w f 2 [.inr (.inl 223), .inl 0] [] := by
  show mj_run yM_laysAll w f 0 [.inr (.inl 223), .inr (.inr (.inr 0))] [] = _
  refine ms_iconst (n := 0) (v := 0) (p' := 1) (by decide +kernel) rfl ?_
  refine ms_istore_n (k := 1) (ls' := [.inr (.inl 223), .inl 0]) (p' := 2) (by decide +kernel) rfl (Nat.le_of_ble_eq_true rfl) rfl ?_
  rfl
theorem e_M_laysAll_2 {w : mj_W} (hw : w9 w) (f : mj_F) (x1 : Int)  : mj_run yM_laysAll w f 2 [.inr (.inl 223), .inl x1] [] = if 4 ≤ x1 then some (w, f, none) else mj_bu (mj_call yM_nought w f [.inr (.inl 223)]) (fun f1 => mj_bu (mj_call yM_stores w f1 [.inr (.inl 223), .inl x1]) (fun f2 => mj_run yM_laysAll w f2 2 [.inr (.inl 223), .inl (mj_w (x1 + 1))] [])) := by
  refine ms_iload_n (k := 1) (p' := 3) (by decide +kernel) rfl rfl ?_
  refine ms_iconst (n := 4) (v := 4) (p' := 4) (by decide +kernel) rfl ?_
  refine ms_icmp_ge (off := 18) (t := 22) (p' := 7) (by decide +kernel) rfl (fun hc => ?_) (fun hc => ?_)
  · exact ms_vret (by decide +kernel)
  · refine ms_aload_n (k := 0) (p' := 8) (by decide +kernel) rfl rfl ?_
    refine ms_virt_u (idx := 126) (cy := yM_nought) (n := 0) (a := 223) (as := []) (rest := []) (p' := 11) (by decide +kernel) rfl rfl rfl rfl (hw.1) rfl (fun f1 => ?_)
    refine ms_aload_n (k := 0) (p' := 12) (by decide +kernel) rfl rfl ?_
    refine ms_iload_n (k := 1) (p' := 13) (by decide +kernel) rfl rfl ?_
    refine ms_virt_u (idx := 129) (cy := yM_stores) (n := 1) (a := 223) (as := [.inl x1]) (rest := []) (p' := 16) (by decide +kernel) rfl rfl rfl rfl (hw.1) rfl (fun f2 => ?_)
    refine ms_iinc (k := 1) (n := 1) (ls' := [.inr (.inl 223), .inl (mj_w (x1 + 1))]) (p' := 19) (by decide +kernel) rfl rfl rfl ?_
    refine ms_goto (off := (-17)) (p' := 2) (by decide +kernel) ?_
    rfl
theorem w25t {t : Nat} (h : t < 4) : mj_w (mj_w (mj_w (25 * (t : Int)) + mj_w (5 * 0)) + 0) = ((25 * t : Nat) : Int) := by unfold mj_w; omega
/-- with no clocks: one round of laysAll() -/
theorem d_one {w : mj_W} (hw : w9 w) {g : mj_F} (hc : g 223 2 = 0) {t : Nat} (ht : t < 4) : ∃ g' : mj_F, mj_run yM_laysAll w g 2 [.inr (.inl 223), .inl (t : Int)] [] = mj_run yM_laysAll w g' 2 [.inr (.inl 223), .inl ((t + 1 : Nat) : Int)] [] ∧ (∀ a q, ¬ (a = 223 ∧ (q = 52 ∨ q = 53)) → a ≠ 252 → ¬ (a = 234 ∧ (q = 25 * t ∨ q = 100 + t)) → g' a q = g a q) ∧ g' 234 (25 * t) = 1 ∧ g' 234 (100 + t) = 0 := by
  have i0 : mj_w (mj_w (62 * 0) + 0) = 0 := by decide
  have i1 : mj_w ((0 : Int) + 1) = 1 := by decide
  obtain ⟨g1, hg1⟩ : ∃ g1, g1 = mj_u (mj_u (mj_u g 223 52 1) 223 53 0) 252 0 1 := ⟨_, rfl⟩
  have e52 : mj_u (mj_u g 223 52 1) 223 53 0 223 52 = 1 := by rw [u_o (by decide), u_self]
  have f52 : g1 223 52 = 1 := by rw [hg1, u_o (by decide)]; exact e52
  have f53 : g1 223 53 = 0 := by rw [hg1, u_o (by decide), u_self]
  have f252 : g1 252 0 = 1 := by rw [hg1, u_self]
  have hn : mj_call yM_nought w g [.inr (.inl 223)] = some (w, g1, none) := by
    rw [d_M_nought hw, hc, i1, e_M_nought_17 hw, e52, if_neg (by decide), e_M_nought_27 hw, e52, if_neg (by decide), d_M_put hw, i0, mj_gd_pos (by decide), mj_bu_some, i1]
    have z : mj_u (mj_u (mj_u g 223 52 1) 223 53 0) 252 (0 : Int).toNat 1 = g1 := by rw [hg1]; rfl
    rw [z, e_M_nought_27 hw, f52, if_pos (by decide), i1, e_M_nought_17 hw, f52, if_pos (by decide)]
  obtain ⟨g2, hg2⟩ : ∃ g2, g2 = mj_u g1 234 (25 * t) 1 := ⟨_, rfl⟩
  have h52 : g2 223 52 = 1 := by rw [hg2, u_o (by omega)]; exact f52
  have h53 : g2 223 53 = 0 := by rw [hg2, u_o (by omega)]; exact f53
  have hs : mj_call yM_stores w g1 [.inr (.inl 223), .inl (t : Int)] = some (w, mj_u g2 234 (100 + t) 0, none) := by
    rw [d_M_stores hw, e_M_stores_2 hw, f52, if_neg (by decide), e_M_stores_12 hw, f52, if_neg (by decide), d_M_get hw, i0, mj_gd_pos (by decide), mj_bi_some, w25t ht, mj_gd_pos (by omega), Int.toNat_natCast, i1]
    have z : mj_u g1 234 (25 * t) (g1 252 (0 : Int).toNat) = g2 := by
      rw [hg2, show g1 252 (0 : Int).toNat = 1 from f252]
    rw [z, e_M_stores_12 hw, h52, if_pos (by decide), i1, e_M_stores_2 hw, h52, if_pos (by decide), h53, if_pos rfl, w100 ht, mj_gd_pos (by omega), Int.toNat_natCast]
  refine ⟨mj_u g2 234 (100 + t) 0, ?_, fun a q h1 h2 h3 => ?_, ?_, u_self⟩
  · rw [e_M_laysAll_2 hw, if_neg (by omega), hn, mj_bu_some, hs, mj_bu_some, wS (by omega)]
  · rw [u_o (by omega), hg2, u_o (by omega), hg1, u_o (by omega), u_o (by omega), u_o (by omega)]
  · rw [u_o (by omega), hg2, u_self]
theorem d_laysAll {w : mj_W} (hw : w9 w) {g : mj_F} (hc : g 223 2 = 0) : ∃ g' : mj_F, mj_call yM_laysAll w g [.inr (.inl 223)] = some (w, g', none) ∧ (∀ a q, ¬ (a = 223 ∧ (q = 52 ∨ q = 53)) → a ≠ 252 → a ≠ 234 → g' a q = g a q) ∧ (∀ t, t < 4 → g' 234 (25 * t) = 1 ∧ g' 234 (100 + t) = 0) ∧ ∀ q, 104 ≤ q → g' 234 q = g 234 q := by
  have L : ∀ (d t : Nat) (h : mj_F), 4 - t = d → t ≤ 4 → h 223 2 = 0 → (∀ s, s < t → h 234 (25 * s) = 1 ∧ h 234 (100 + s) = 0) → ∃ g' : mj_F, mj_run yM_laysAll w h 2 [.inr (.inl 223), .inl (t : Int)] [] = some (w, g', none) ∧ (∀ a q, ¬ (a = 223 ∧ (q = 52 ∨ q = 53)) → a ≠ 252 → a ≠ 234 → g' a q = h a q) ∧ (∀ t, t < 4 → g' 234 (25 * t) = 1 ∧ g' 234 (100 + t) = 0) ∧ ∀ q, 104 ≤ q → g' 234 q = h 234 q := by
    intro d
    induction d with
    | zero =>
      intro t h h1 h2 h3 h4
      have : t = 4 := by omega
      subst this
      exact ⟨h, by rw [e_M_laysAll_2 hw, if_pos (by omega)], fun _ _ _ _ _ => rfl, h4, fun _ _ => rfl⟩
    | succ d ih =>
      intro t h h1 h2 h3 h4
      obtain ⟨g1, a1, a2, a3, a4⟩ := d_one hw h3 (show t < 4 by omega)
      obtain ⟨g2, b1, b2, b3, b4⟩ := ih (t + 1) g1 (by omega) (by omega) ((a2 223 2 (by omega) (by omega) (by omega)).trans h3) (fun s hs => by
        by_cases z : s = t
        · subst z; exact ⟨a3, a4⟩
        · rw [a2 234 (25 * s) (by omega) (by omega) (by omega), a2 234 (100 + s) (by omega) (by omega) (by omega)]
          exact h4 s (by omega))
      refine ⟨g2, a1.trans b1, fun a q y1 y2 y3 => ?_, b3, fun q hq => ?_⟩
      · rw [b2 a q y1 y2 y3]; exact a2 a q y1 y2 (by omega)
      · rw [b4 q hq]; exact a2 234 q (by omega) (by omega) (by omega)
  rw [d_M_laysAll hw]
  exact L 4 0 g (by omega) (by omega) hc (fun s hs => absurd hs (by omega))
theorem w9_M {L : Nat} : w9 (wCn L 259 17716 []) := ⟨(wCn_k (by decide) (by decide)).trans (by decide +kernel), (wCn_k (by decide) (by decide)).trans (by decide +kernel), (wCn_k (by decide) (by decide)).trans (by decide +kernel), (wCn_r (by decide) (by decide) (by decide +kernel)).trans (by decide +kernel), (wCn_r (by decide) (by decide) (by decide +kernel)).trans (by decide +kernel)⟩
theorem ci_M (L : Nat) (f : mj_F) (hf : ∀ q, f 223 q = 0) : ∃ f' : mj_F, mj_call yM_init (wCn L 224 7333 [(223, 0)]) f [.inr (.inl 223)] = some (wCn L 259 17716 [], f', none) ∧ (∀ a q, a < 223 → f' a q = f a q) ∧ (∀ t, t < 4 → f' 234 (25 * t) = 1 ∧ f' 234 (100 + t) = 0) ∧ f' 223 2 = 0 ∧ f' 223 1 = 0 ∧ f' 223 3 = 0 ∧ f' 223 4 = 0 ∧ f' 223 5 = 0 ∧ f' 223 18 = 0 ∧ f' 223 23 = 0 ∧ f' 223 25 = 0 ∧ f' 223 31 = 0 ∧ f' 223 32 = (-1) ∧ f' 233 0 = 0 ∧ f' 234 104 = 0 := by
  have hc0 : (mj_z (mj_z (mj_z (mj_z (mj_z (mj_z (mj_z (mj_z (mj_z (mj_z (mj_z (mj_z (mj_z (mj_z (mj_z (mj_z (mj_z (mj_z (mj_u (mj_z (mj_z (mj_z (mj_z (mj_z (mj_z (mj_z (mj_z (mj_z (mj_z (mj_z (mj_z (mj_z (mj_z (mj_z (mj_z (mj_z (f) 224) 225) 226) 227) 228) 229) 230) 231) 232) 233) 234) 235) 236) 237) 238) 239) 240) 223 32 (-1)) 241) 242) 243) 244) 245) 246) 247) 248) 249) 250) 251) 252) 253) 254) 255) 256) 257) 258) 223 2 = 0 := by rw [z_o (by decide), z_o (by decide), z_o (by decide), z_o (by decide), z_o (by decide), z_o (by decide), z_o (by decide), z_o (by decide), z_o (by decide), z_o (by decide), z_o (by decide), z_o (by decide), z_o (by decide), z_o (by decide), z_o (by decide), z_o (by decide), z_o (by decide), z_o (by decide), u_o (by decide), z_o (by decide), z_o (by decide), z_o (by decide), z_o (by decide), z_o (by decide), z_o (by decide), z_o (by decide), z_o (by decide), z_o (by decide), z_o (by decide), z_o (by decide), z_o (by decide), z_o (by decide), z_o (by decide), z_o (by decide), z_o (by decide), z_o (by decide), hf 2]
  obtain ⟨h1, eh, frh, fah, fbh⟩ := d_laysAll (w := wCn L 259 17716 []) w9_M hc0
  refine ⟨h1, ?_, fun a q h => ?_, fah, ?_, ?_, ?_, ?_, ?_, ?_, ?_, ?_, ?_, ?_, ?_, ?_⟩
  · show mj_run yM_init (wCn L 224 7333 [(223, 0)]) f 0 [.inr (.inl 223)] [] = _
    refine ms_aload_n (k := 0) (p' := 1) (by decide +kernel) rfl rfl ?_
    refine mc_obj (idx := 7) (x := 0) (q := 1370) (p' := 4) (by decide +kernel) rfl rfl ?_
    refine ms_aload_n (k := 0) (p' := 5) (by decide +kernel) rfl rfl ?_
    refine ms_bipush (n := 24) (v := 24) (p' := 7) (by decide +kernel) rfl ?_
    refine mc_newa (at_ := .int) (kd := 100) (m := 24) (l' := [(223, 0)]) (p' := 9) ⟨by decide +kernel, Or.inl ⟨rfl, rfl⟩, by decide +kernel, by decide +kernel, by decide⟩ ⟨rfl, by decide⟩ (okN_of (by decide +kernel)) rfl ?_
    refine mc_putr (idx := 13) (ci := 9) (k := 6) (q := 1397) (l' := [(223, 7)]) (p' := 12) (by decide +kernel) ⟨by decide +kernel, by decide +kernel⟩ (by decide) (okU_of (by decide +kernel)) rfl ?_
    refine ms_aload_n (k := 0) (p' := 13) (by decide +kernel) rfl rfl ?_
    refine ms_sipush (n := 144) (v := 144) (p' := 16) (by decide +kernel) rfl ?_
    refine mc_newa (at_ := .int) (kd := 100) (m := 144) (l' := [(223, 7)]) (p' := 18) ⟨by decide +kernel, Or.inl ⟨rfl, rfl⟩, by decide +kernel, by decide +kernel, by decide⟩ ⟨rfl, by decide⟩ (okN_of (by decide +kernel)) rfl ?_
    refine mc_putr (idx := 17) (ci := 9) (k := 7) (q := 1398) (l' := [(223, 8)]) (p' := 21) (by decide +kernel) ⟨by decide +kernel, by decide +kernel⟩ (by decide) (okU_of (by decide +kernel)) rfl ?_
    refine ms_aload_n (k := 0) (p' := 22) (by decide +kernel) rfl rfl ?_
    refine ms_sipush (n := 144) (v := 144) (p' := 25) (by decide +kernel) rfl ?_
    refine mc_newa (at_ := .int) (kd := 100) (m := 144) (l' := [(223, 8)]) (p' := 27) ⟨by decide +kernel, Or.inl ⟨rfl, rfl⟩, by decide +kernel, by decide +kernel, by decide⟩ ⟨rfl, by decide⟩ (okN_of (by decide +kernel)) rfl ?_
    refine mc_putr (idx := 20) (ci := 9) (k := 8) (q := 1399) (l' := [(223, 9)]) (p' := 30) (by decide +kernel) ⟨by decide +kernel, by decide +kernel⟩ (by decide) (okU_of (by decide +kernel)) rfl ?_
    refine ms_aload_n (k := 0) (p' := 31) (by decide +kernel) rfl rfl ?_
    refine ms_sipush (n := 144) (v := 144) (p' := 34) (by decide +kernel) rfl ?_
    refine mc_newa (at_ := .int) (kd := 100) (m := 144) (l' := [(223, 9)]) (p' := 36) ⟨by decide +kernel, Or.inl ⟨rfl, rfl⟩, by decide +kernel, by decide +kernel, by decide⟩ ⟨rfl, by decide⟩ (okN_of (by decide +kernel)) rfl ?_
    refine mc_putr (idx := 23) (ci := 9) (k := 9) (q := 1400) (l' := [(223, 10)]) (p' := 39) (by decide +kernel) ⟨by decide +kernel, by decide +kernel⟩ (by decide) (okU_of (by decide +kernel)) rfl ?_
    refine ms_aload_n (k := 0) (p' := 40) (by decide +kernel) rfl rfl ?_
    refine ms_bipush (n := 16) (v := 16) (p' := 42) (by decide +kernel) rfl ?_
    refine mc_newa (at_ := .int) (kd := 100) (m := 16) (l' := [(223, 10)]) (p' := 44) ⟨by decide +kernel, Or.inl ⟨rfl, rfl⟩, by decide +kernel, by decide +kernel, by decide⟩ ⟨rfl, by decide⟩ (okN_of (by decide +kernel)) rfl ?_
    refine mc_putr (idx := 26) (ci := 9) (k := 10) (q := 1401) (l' := [(223, 11)]) (p' := 47) (by decide +kernel) ⟨by decide +kernel, by decide +kernel⟩ (by decide) (okU_of (by decide +kernel)) rfl ?_
    refine ms_aload_n (k := 0) (p' := 48) (by decide +kernel) rfl rfl ?_
    refine ms_bipush (n := 16) (v := 16) (p' := 50) (by decide +kernel) rfl ?_
    refine mc_newa (at_ := .int) (kd := 100) (m := 16) (l' := [(223, 11)]) (p' := 52) ⟨by decide +kernel, Or.inl ⟨rfl, rfl⟩, by decide +kernel, by decide +kernel, by decide⟩ ⟨rfl, by decide⟩ (okN_of (by decide +kernel)) rfl ?_
    refine mc_putr (idx := 29) (ci := 9) (k := 11) (q := 1402) (l' := [(223, 12)]) (p' := 55) (by decide +kernel) ⟨by decide +kernel, by decide +kernel⟩ (by decide) (okU_of (by decide +kernel)) rfl ?_
    refine ms_aload_n (k := 0) (p' := 56) (by decide +kernel) rfl rfl ?_
    refine ms_bipush (n := 16) (v := 16) (p' := 58) (by decide +kernel) rfl ?_
    refine mc_newa (at_ := .int) (kd := 100) (m := 16) (l' := [(223, 12)]) (p' := 60) ⟨by decide +kernel, Or.inl ⟨rfl, rfl⟩, by decide +kernel, by decide +kernel, by decide⟩ ⟨rfl, by decide⟩ (okN_of (by decide +kernel)) rfl ?_
    refine mc_putr (idx := 32) (ci := 9) (k := 12) (q := 1403) (l' := [(223, 13)]) (p' := 63) (by decide +kernel) ⟨by decide +kernel, by decide +kernel⟩ (by decide) (okU_of (by decide +kernel)) rfl ?_
    refine ms_aload_n (k := 0) (p' := 64) (by decide +kernel) rfl rfl ?_
    refine ms_bipush (n := 64) (v := 64) (p' := 66) (by decide +kernel) rfl ?_
    refine mc_newa (at_ := .int) (kd := 100) (m := 64) (l' := [(223, 13)]) (p' := 68) ⟨by decide +kernel, Or.inl ⟨rfl, rfl⟩, by decide +kernel, by decide +kernel, by decide⟩ ⟨rfl, by decide⟩ (okN_of (by decide +kernel)) rfl ?_
    refine mc_putr (idx := 35) (ci := 9) (k := 13) (q := 1404) (l' := [(223, 14)]) (p' := 71) (by decide +kernel) ⟨by decide +kernel, by decide +kernel⟩ (by decide) (okU_of (by decide +kernel)) rfl ?_
    refine ms_aload_n (k := 0) (p' := 72) (by decide +kernel) rfl rfl ?_
    refine ms_bipush (n := 64) (v := 64) (p' := 74) (by decide +kernel) rfl ?_
    refine mc_newa (at_ := .int) (kd := 100) (m := 64) (l' := [(223, 14)]) (p' := 76) ⟨by decide +kernel, Or.inl ⟨rfl, rfl⟩, by decide +kernel, by decide +kernel, by decide⟩ ⟨rfl, by decide⟩ (okN_of (by decide +kernel)) rfl ?_
    refine mc_putr (idx := 38) (ci := 9) (k := 14) (q := 1405) (l' := [(223, 15)]) (p' := 79) (by decide +kernel) ⟨by decide +kernel, by decide +kernel⟩ (by decide) (okU_of (by decide +kernel)) rfl ?_
    refine ms_aload_n (k := 0) (p' := 80) (by decide +kernel) rfl rfl ?_
    refine ms_iconst (n := 5) (v := 5) (p' := 81) (by decide +kernel) rfl ?_
    refine mc_newa (at_ := .int) (kd := 100) (m := 5) (l' := [(223, 15)]) (p' := 83) ⟨by decide +kernel, Or.inl ⟨rfl, rfl⟩, by decide +kernel, by decide +kernel, by decide⟩ ⟨rfl, by decide⟩ (okN_of (by decide +kernel)) rfl ?_
    refine mc_putr (idx := 41) (ci := 9) (k := 15) (q := 1406) (l' := [(223, 16)]) (p' := 86) (by decide +kernel) ⟨by decide +kernel, by decide +kernel⟩ (by decide) (okU_of (by decide +kernel)) rfl ?_
    refine ms_aload_n (k := 0) (p' := 87) (by decide +kernel) rfl rfl ?_
    refine ms_bipush (n := 125) (v := 125) (p' := 89) (by decide +kernel) rfl ?_
    refine mc_newa (at_ := .int) (kd := 100) (m := 125) (l' := [(223, 16)]) (p' := 91) ⟨by decide +kernel, Or.inl ⟨rfl, rfl⟩, by decide +kernel, by decide +kernel, by decide⟩ ⟨rfl, by decide⟩ (okN_of (by decide +kernel)) rfl ?_
    refine mc_putr (idx := 44) (ci := 9) (k := 16) (q := 1407) (l' := [(223, 17)]) (p' := 94) (by decide +kernel) ⟨by decide +kernel, by decide +kernel⟩ (by decide) (okU_of (by decide +kernel)) rfl ?_
    refine ms_aload_n (k := 0) (p' := 95) (by decide +kernel) rfl rfl ?_
    refine ms_sipush (n := 2000) (v := 2000) (p' := 98) (by decide +kernel) rfl ?_
    refine mc_newa (at_ := .int) (kd := 100) (m := 2000) (l' := [(223, 17)]) (p' := 100) ⟨by decide +kernel, Or.inl ⟨rfl, rfl⟩, by decide +kernel, by decide +kernel, by decide⟩ ⟨rfl, by decide⟩ (okN_of (by decide +kernel)) rfl ?_
    refine mc_putr (idx := 47) (ci := 9) (k := 17) (q := 1408) (l' := [(223, 18)]) (p' := 103) (by decide +kernel) ⟨by decide +kernel, by decide +kernel⟩ (by decide) (okU_of (by decide +kernel)) rfl ?_
    refine ms_aload_n (k := 0) (p' := 104) (by decide +kernel) rfl rfl ?_
    refine ms_bipush (n := 60) (v := 60) (p' := 106) (by decide +kernel) rfl ?_
    refine mc_newa (at_ := .int) (kd := 100) (m := 60) (l' := [(223, 18)]) (p' := 108) ⟨by decide +kernel, Or.inl ⟨rfl, rfl⟩, by decide +kernel, by decide +kernel, by decide⟩ ⟨rfl, by decide⟩ (okN_of (by decide +kernel)) rfl ?_
    refine mc_putr (idx := 50) (ci := 9) (k := 19) (q := 1410) (l' := [(223, 20)]) (p' := 111) (by decide +kernel) ⟨by decide +kernel, by decide +kernel⟩ (by decide) (okU_of (by decide +kernel)) rfl ?_
    refine ms_aload_n (k := 0) (p' := 112) (by decide +kernel) rfl rfl ?_
    refine ms_bipush (n := 60) (v := 60) (p' := 114) (by decide +kernel) rfl ?_
    refine mc_newa (at_ := .int) (kd := 100) (m := 60) (l' := [(223, 20)]) (p' := 116) ⟨by decide +kernel, Or.inl ⟨rfl, rfl⟩, by decide +kernel, by decide +kernel, by decide⟩ ⟨rfl, by decide⟩ (okN_of (by decide +kernel)) rfl ?_
    refine mc_putr (idx := 53) (ci := 9) (k := 20) (q := 1411) (l' := [(223, 21)]) (p' := 119) (by decide +kernel) ⟨by decide +kernel, by decide +kernel⟩ (by decide) (okU_of (by decide +kernel)) rfl ?_
    refine ms_aload_n (k := 0) (p' := 120) (by decide +kernel) rfl rfl ?_
    refine ms_bipush (n := 60) (v := 60) (p' := 122) (by decide +kernel) rfl ?_
    refine mc_newa (at_ := .int) (kd := 100) (m := 60) (l' := [(223, 21)]) (p' := 124) ⟨by decide +kernel, Or.inl ⟨rfl, rfl⟩, by decide +kernel, by decide +kernel, by decide⟩ ⟨rfl, by decide⟩ (okN_of (by decide +kernel)) rfl ?_
    refine mc_putr (idx := 56) (ci := 9) (k := 21) (q := 1412) (l' := [(223, 22)]) (p' := 127) (by decide +kernel) ⟨by decide +kernel, by decide +kernel⟩ (by decide) (okU_of (by decide +kernel)) rfl ?_
    refine ms_aload_n (k := 0) (p' := 128) (by decide +kernel) rfl rfl ?_
    refine ms_sipush (n := 1500) (v := 1500) (p' := 131) (by decide +kernel) rfl ?_
    refine mc_newa (at_ := .int) (kd := 100) (m := 1500) (l' := [(223, 22)]) (p' := 133) ⟨by decide +kernel, Or.inl ⟨rfl, rfl⟩, by decide +kernel, by decide +kernel, by decide⟩ ⟨rfl, by decide⟩ (okN_of (by decide +kernel)) rfl ?_
    refine mc_putr (idx := 59) (ci := 9) (k := 22) (q := 1413) (l' := [(223, 23)]) (p' := 136) (by decide +kernel) ⟨by decide +kernel, by decide +kernel⟩ (by decide) (okU_of (by decide +kernel)) rfl ?_
    refine ms_aload_n (k := 0) (p' := 137) (by decide +kernel) rfl rfl ?_
    refine ms_sipush (n := 900) (v := 900) (p' := 140) (by decide +kernel) rfl ?_
    refine mc_newa (at_ := .byte) (kd := 101) (m := 900) (l' := [(223, 23)]) (p' := 142) ⟨by decide +kernel, Or.inr (Or.inl ⟨rfl, rfl⟩), by decide +kernel, by decide +kernel, by decide⟩ ⟨rfl, by decide⟩ (okN_of (by decide +kernel)) rfl ?_
    refine mc_putr (idx := 62) (ci := 9) (k := 24) (q := 1415) (l' := [(223, 25)]) (p' := 145) (by decide +kernel) ⟨by decide +kernel, by decide +kernel⟩ (by decide) (okU_of (by decide +kernel)) rfl ?_
    refine ms_aload_n (k := 0) (p' := 146) (by decide +kernel) rfl rfl ?_
    refine ms_iconst (n := (-1)) (v := (-1)) (p' := 147) (by decide +kernel) rfl ?_
    refine ms_puti (idx := 66) (ci := 9) (k := 32) (q := 1423) (p' := 150) (by decide +kernel) rfl ((wCn_k (by decide) (by decide)).trans (by decide +kernel)) ?_
    refine ms_aload_n (k := 0) (p' := 151) (by decide +kernel) rfl rfl ?_
    refine ms_iconst (n := 4) (v := 4) (p' := 152) (by decide +kernel) rfl ?_
    refine mc_newa (at_ := .int) (kd := 100) (m := 4) (l' := [(223, 25)]) (p' := 154) ⟨by decide +kernel, Or.inl ⟨rfl, rfl⟩, by decide +kernel, by decide +kernel, by decide⟩ ⟨rfl, by decide⟩ (okN_of (by decide +kernel)) rfl ?_
    refine mc_putr (idx := 69) (ci := 9) (k := 34) (q := 1425) (l' := [(223, 35)]) (p' := 157) (by decide +kernel) ⟨by decide +kernel, by decide +kernel⟩ (by decide) (okU_of (by decide +kernel)) rfl ?_
    refine ms_aload_n (k := 0) (p' := 158) (by decide +kernel) rfl rfl ?_
    refine ms_bipush (n := 8) (v := 8) (p' := 160) (by decide +kernel) rfl ?_
    refine mc_newa (at_ := .int) (kd := 100) (m := 8) (l' := [(223, 35)]) (p' := 162) ⟨by decide +kernel, Or.inl ⟨rfl, rfl⟩, by decide +kernel, by decide +kernel, by decide⟩ ⟨rfl, by decide⟩ (okN_of (by decide +kernel)) rfl ?_
    refine mc_putr (idx := 72) (ci := 9) (k := 35) (q := 1426) (l' := [(223, 36)]) (p' := 165) (by decide +kernel) ⟨by decide +kernel, by decide +kernel⟩ (by decide) (okU_of (by decide +kernel)) rfl ?_
    refine ms_aload_n (k := 0) (p' := 166) (by decide +kernel) rfl rfl ?_
    refine ms_bipush (n := 24) (v := 24) (p' := 168) (by decide +kernel) rfl ?_
    refine mc_newa (at_ := .int) (kd := 100) (m := 24) (l' := [(223, 36)]) (p' := 170) ⟨by decide +kernel, Or.inl ⟨rfl, rfl⟩, by decide +kernel, by decide +kernel, by decide⟩ ⟨rfl, by decide⟩ (okN_of (by decide +kernel)) rfl ?_
    refine mc_putr (idx := 75) (ci := 9) (k := 42) (q := 1433) (l' := [(223, 43)]) (p' := 173) (by decide +kernel) ⟨by decide +kernel, by decide +kernel⟩ (by decide) (okU_of (by decide +kernel)) rfl ?_
    refine ms_aload_n (k := 0) (p' := 174) (by decide +kernel) rfl rfl ?_
    refine ms_sipush (n := 144) (v := 144) (p' := 177) (by decide +kernel) rfl ?_
    refine mc_newa (at_ := .int) (kd := 100) (m := 144) (l' := [(223, 43)]) (p' := 179) ⟨by decide +kernel, Or.inl ⟨rfl, rfl⟩, by decide +kernel, by decide +kernel, by decide⟩ ⟨rfl, by decide⟩ (okN_of (by decide +kernel)) rfl ?_
    refine mc_putr (idx := 78) (ci := 9) (k := 43) (q := 1434) (l' := [(223, 44)]) (p' := 182) (by decide +kernel) ⟨by decide +kernel, by decide +kernel⟩ (by decide) (okU_of (by decide +kernel)) rfl ?_
    refine ms_aload_n (k := 0) (p' := 183) (by decide +kernel) rfl rfl ?_
    refine ms_sipush (n := 144) (v := 144) (p' := 186) (by decide +kernel) rfl ?_
    refine mc_newa (at_ := .int) (kd := 100) (m := 144) (l' := [(223, 44)]) (p' := 188) ⟨by decide +kernel, Or.inl ⟨rfl, rfl⟩, by decide +kernel, by decide +kernel, by decide⟩ ⟨rfl, by decide⟩ (okN_of (by decide +kernel)) rfl ?_
    refine mc_putr (idx := 81) (ci := 9) (k := 44) (q := 1435) (l' := [(223, 45)]) (p' := 191) (by decide +kernel) ⟨by decide +kernel, by decide +kernel⟩ (by decide) (okU_of (by decide +kernel)) rfl ?_
    refine ms_aload_n (k := 0) (p' := 192) (by decide +kernel) rfl rfl ?_
    refine ms_sipush (n := 144) (v := 144) (p' := 195) (by decide +kernel) rfl ?_
    refine mc_newa (at_ := .int) (kd := 100) (m := 144) (l' := [(223, 45)]) (p' := 197) ⟨by decide +kernel, Or.inl ⟨rfl, rfl⟩, by decide +kernel, by decide +kernel, by decide⟩ ⟨rfl, by decide⟩ (okN_of (by decide +kernel)) rfl ?_
    refine mc_putr (idx := 84) (ci := 9) (k := 45) (q := 1436) (l' := [(223, 46)]) (p' := 200) (by decide +kernel) ⟨by decide +kernel, by decide +kernel⟩ (by decide) (okU_of (by decide +kernel)) rfl ?_
    refine ms_aload_n (k := 0) (p' := 201) (by decide +kernel) rfl rfl ?_
    refine ms_bipush (n := 16) (v := 16) (p' := 203) (by decide +kernel) rfl ?_
    refine mc_newa (at_ := .int) (kd := 100) (m := 16) (l' := [(223, 46)]) (p' := 205) ⟨by decide +kernel, Or.inl ⟨rfl, rfl⟩, by decide +kernel, by decide +kernel, by decide⟩ ⟨rfl, by decide⟩ (okN_of (by decide +kernel)) rfl ?_
    refine mc_putr (idx := 87) (ci := 9) (k := 46) (q := 1437) (l' := [(223, 47)]) (p' := 208) (by decide +kernel) ⟨by decide +kernel, by decide +kernel⟩ (by decide) (okU_of (by decide +kernel)) rfl ?_
    refine ms_aload_n (k := 0) (p' := 209) (by decide +kernel) rfl rfl ?_
    refine ms_bipush (n := 16) (v := 16) (p' := 211) (by decide +kernel) rfl ?_
    refine mc_newa (at_ := .int) (kd := 100) (m := 16) (l' := [(223, 47)]) (p' := 213) ⟨by decide +kernel, Or.inl ⟨rfl, rfl⟩, by decide +kernel, by decide +kernel, by decide⟩ ⟨rfl, by decide⟩ (okN_of (by decide +kernel)) rfl ?_
    refine mc_putr (idx := 90) (ci := 9) (k := 47) (q := 1438) (l' := [(223, 48)]) (p' := 216) (by decide +kernel) ⟨by decide +kernel, by decide +kernel⟩ (by decide) (okU_of (by decide +kernel)) rfl ?_
    refine ms_aload_n (k := 0) (p' := 217) (by decide +kernel) rfl rfl ?_
    refine ms_bipush (n := 16) (v := 16) (p' := 219) (by decide +kernel) rfl ?_
    refine mc_newa (at_ := .int) (kd := 100) (m := 16) (l' := [(223, 48)]) (p' := 221) ⟨by decide +kernel, Or.inl ⟨rfl, rfl⟩, by decide +kernel, by decide +kernel, by decide⟩ ⟨rfl, by decide⟩ (okN_of (by decide +kernel)) rfl ?_
    refine mc_putr (idx := 93) (ci := 9) (k := 48) (q := 1439) (l' := [(223, 49)]) (p' := 224) (by decide +kernel) ⟨by decide +kernel, by decide +kernel⟩ (by decide) (okU_of (by decide +kernel)) rfl ?_
    refine ms_aload_n (k := 0) (p' := 225) (by decide +kernel) rfl rfl ?_
    refine ms_bipush (n := 64) (v := 64) (p' := 227) (by decide +kernel) rfl ?_
    refine mc_newa (at_ := .int) (kd := 100) (m := 64) (l' := [(223, 49)]) (p' := 229) ⟨by decide +kernel, Or.inl ⟨rfl, rfl⟩, by decide +kernel, by decide +kernel, by decide⟩ ⟨rfl, by decide⟩ (okN_of (by decide +kernel)) rfl ?_
    refine mc_putr (idx := 96) (ci := 9) (k := 49) (q := 1440) (l' := [(223, 50)]) (p' := 232) (by decide +kernel) ⟨by decide +kernel, by decide +kernel⟩ (by decide) (okU_of (by decide +kernel)) rfl ?_
    refine ms_aload_n (k := 0) (p' := 233) (by decide +kernel) rfl rfl ?_
    refine ms_bipush (n := 64) (v := 64) (p' := 235) (by decide +kernel) rfl ?_
    refine mc_newa (at_ := .int) (kd := 100) (m := 64) (l' := [(223, 50)]) (p' := 237) ⟨by decide +kernel, Or.inl ⟨rfl, rfl⟩, by decide +kernel, by decide +kernel, by decide⟩ ⟨rfl, by decide⟩ (okN_of (by decide +kernel)) rfl ?_
    refine mc_putr (idx := 99) (ci := 9) (k := 50) (q := 1441) (l' := [(223, 51)]) (p' := 240) (by decide +kernel) ⟨by decide +kernel, by decide +kernel⟩ (by decide) (okU_of (by decide +kernel)) rfl ?_
    refine ms_aload_n (k := 0) (p' := 241) (by decide +kernel) rfl rfl ?_
    refine ms_sipush (n := 3844) (v := 3844) (p' := 244) (by decide +kernel) rfl ?_
    refine mc_newa (at_ := .int) (kd := 100) (m := 3844) (l' := [(223, 51)]) (p' := 246) ⟨by decide +kernel, Or.inl ⟨rfl, rfl⟩, by decide +kernel, by decide +kernel, by decide⟩ ⟨rfl, by decide⟩ (okN_of (by decide +kernel)) rfl ?_
    refine mc_putr (idx := 102) (ci := 9) (k := 51) (q := 1442) (l' := [(223, 52)]) (p' := 249) (by decide +kernel) ⟨by decide +kernel, by decide +kernel⟩ (by decide) (okU_of (by decide +kernel)) rfl ?_
    refine ms_aload_n (k := 0) (p' := 250) (by decide +kernel) rfl rfl ?_
    refine ms_iconst (n := 5) (v := 5) (p' := 251) (by decide +kernel) rfl ?_
    refine mc_newa (at_ := .int) (kd := 100) (m := 5) (l' := [(223, 52)]) (p' := 253) ⟨by decide +kernel, Or.inl ⟨rfl, rfl⟩, by decide +kernel, by decide +kernel, by decide⟩ ⟨rfl, by decide⟩ (okN_of (by decide +kernel)) rfl ?_
    refine mc_putr (idx := 105) (ci := 9) (k := 54) (q := 1445) (l' := [(223, 55)]) (p' := 256) (by decide +kernel) ⟨by decide +kernel, by decide +kernel⟩ (by decide) (okU_of (by decide +kernel)) rfl ?_
    refine ms_aload_n (k := 0) (p' := 257) (by decide +kernel) rfl rfl ?_
    refine ms_bipush (n := 60) (v := 60) (p' := 259) (by decide +kernel) rfl ?_
    refine mc_newa (at_ := .int) (kd := 100) (m := 60) (l' := [(223, 55)]) (p' := 261) ⟨by decide +kernel, Or.inl ⟨rfl, rfl⟩, by decide +kernel, by decide +kernel, by decide⟩ ⟨rfl, by decide⟩ (okN_of (by decide +kernel)) rfl ?_
    refine mc_putr (idx := 108) (ci := 9) (k := 55) (q := 1446) (l' := [(223, 56)]) (p' := 264) (by decide +kernel) ⟨by decide +kernel, by decide +kernel⟩ (by decide) (okU_of (by decide +kernel)) rfl ?_
    refine ms_aload_n (k := 0) (p' := 265) (by decide +kernel) rfl rfl ?_
    refine ms_iconst (n := 4) (v := 4) (p' := 266) (by decide +kernel) rfl ?_
    refine mc_newa (at_ := .int) (kd := 100) (m := 4) (l' := [(223, 56)]) (p' := 268) ⟨by decide +kernel, Or.inl ⟨rfl, rfl⟩, by decide +kernel, by decide +kernel, by decide⟩ ⟨rfl, by decide⟩ (okN_of (by decide +kernel)) rfl ?_
    refine mc_putr (idx := 111) (ci := 9) (k := 57) (q := 1448) (l' := [(223, 58)]) (p' := 271) (by decide +kernel) ⟨by decide +kernel, by decide +kernel⟩ (by decide) (okU_of (by decide +kernel)) rfl ?_
    refine ms_aload_n (k := 0) (p' := 272) (by decide +kernel) rfl rfl ?_
    refine ms_iconst (n := 4) (v := 4) (p' := 273) (by decide +kernel) rfl ?_
    refine mc_newa (at_ := .int) (kd := 100) (m := 4) (l' := [(223, 58)]) (p' := 275) ⟨by decide +kernel, Or.inl ⟨rfl, rfl⟩, by decide +kernel, by decide +kernel, by decide⟩ ⟨rfl, by decide⟩ (okN_of (by decide +kernel)) rfl ?_
    refine mc_putr (idx := 114) (ci := 9) (k := 58) (q := 1449) (l' := [(223, 59)]) (p' := 278) (by decide +kernel) ⟨by decide +kernel, by decide +kernel⟩ (by decide) (okU_of (by decide +kernel)) rfl ?_
    refine ms_aload_n (k := 0) (p' := 279) (by decide +kernel) rfl rfl ?_
    refine ms_sipush (n := 240) (v := 240) (p' := 282) (by decide +kernel) rfl ?_
    refine mc_newa (at_ := .int) (kd := 100) (m := 240) (l' := [(223, 59)]) (p' := 284) ⟨by decide +kernel, Or.inl ⟨rfl, rfl⟩, by decide +kernel, by decide +kernel, by decide⟩ ⟨rfl, by decide⟩ (okN_of (by decide +kernel)) rfl ?_
    refine mc_putr (idx := 117) (ci := 9) (k := 59) (q := 1450) (l' := [(223, 60)]) (p' := 287) (by decide +kernel) ⟨by decide +kernel, by decide +kernel⟩ (by decide) (okU_of (by decide +kernel)) rfl ?_
    refine ms_aload_n (k := 0) (p' := 288) (by decide +kernel) rfl rfl ?_
    refine ms_sipush (n := 240) (v := 240) (p' := 291) (by decide +kernel) rfl ?_
    refine mc_newa (at_ := .int) (kd := 100) (m := 240) (l' := [(223, 60)]) (p' := 293) ⟨by decide +kernel, Or.inl ⟨rfl, rfl⟩, by decide +kernel, by decide +kernel, by decide⟩ ⟨rfl, by decide⟩ (okN_of (by decide +kernel)) rfl ?_
    refine mc_putr (idx := 120) (ci := 9) (k := 60) (q := 1451) (l' := []) (p' := 296) (by decide +kernel) ⟨by decide +kernel, by decide +kernel⟩ (by decide) (okU_of (by decide +kernel)) rfl ?_
    refine ms_aload_n (k := 0) (p' := 297) (by decide +kernel) rfl rfl ?_
    refine (ms_virt_u (idx := 123) (cy := yM_laysAll) (n := 0) (a := 223) (as := []) (rest := []) (p' := 300) (by decide +kernel) rfl rfl rfl rfl ((wCn_k (by decide) (by decide)).trans (by decide +kernel)) rfl (fun f1 => ms_vret (by decide +kernel))).trans ?_
    rw [eh, mj_bu_some]
  · rw [frh a q (by omega) (by omega) (by omega), z_o (by omega), z_o (by omega), z_o (by omega), z_o (by omega), z_o (by omega), z_o (by omega), z_o (by omega), z_o (by omega), z_o (by omega), z_o (by omega), z_o (by omega), z_o (by omega), z_o (by omega), z_o (by omega), z_o (by omega), z_o (by omega), z_o (by omega), z_o (by omega), u_o (by omega), z_o (by omega), z_o (by omega), z_o (by omega), z_o (by omega), z_o (by omega), z_o (by omega), z_o (by omega), z_o (by omega), z_o (by omega), z_o (by omega), z_o (by omega), z_o (by omega), z_o (by omega), z_o (by omega), z_o (by omega), z_o (by omega), z_o (by omega)]
  · rw [frh 223 2 (by decide) (by decide) (by decide), z_o (by decide), z_o (by decide), z_o (by decide), z_o (by decide), z_o (by decide), z_o (by decide), z_o (by decide), z_o (by decide), z_o (by decide), z_o (by decide), z_o (by decide), z_o (by decide), z_o (by decide), z_o (by decide), z_o (by decide), z_o (by decide), z_o (by decide), z_o (by decide), u_o (by decide), z_o (by decide), z_o (by decide), z_o (by decide), z_o (by decide), z_o (by decide), z_o (by decide), z_o (by decide), z_o (by decide), z_o (by decide), z_o (by decide), z_o (by decide), z_o (by decide), z_o (by decide), z_o (by decide), z_o (by decide), z_o (by decide), z_o (by decide), hf 2]
  · rw [frh 223 1 (by decide) (by decide) (by decide), z_o (by decide), z_o (by decide), z_o (by decide), z_o (by decide), z_o (by decide), z_o (by decide), z_o (by decide), z_o (by decide), z_o (by decide), z_o (by decide), z_o (by decide), z_o (by decide), z_o (by decide), z_o (by decide), z_o (by decide), z_o (by decide), z_o (by decide), z_o (by decide), u_o (by decide), z_o (by decide), z_o (by decide), z_o (by decide), z_o (by decide), z_o (by decide), z_o (by decide), z_o (by decide), z_o (by decide), z_o (by decide), z_o (by decide), z_o (by decide), z_o (by decide), z_o (by decide), z_o (by decide), z_o (by decide), z_o (by decide), z_o (by decide), hf 1]
  · rw [frh 223 3 (by decide) (by decide) (by decide), z_o (by decide), z_o (by decide), z_o (by decide), z_o (by decide), z_o (by decide), z_o (by decide), z_o (by decide), z_o (by decide), z_o (by decide), z_o (by decide), z_o (by decide), z_o (by decide), z_o (by decide), z_o (by decide), z_o (by decide), z_o (by decide), z_o (by decide), z_o (by decide), u_o (by decide), z_o (by decide), z_o (by decide), z_o (by decide), z_o (by decide), z_o (by decide), z_o (by decide), z_o (by decide), z_o (by decide), z_o (by decide), z_o (by decide), z_o (by decide), z_o (by decide), z_o (by decide), z_o (by decide), z_o (by decide), z_o (by decide), z_o (by decide), hf 3]
  · rw [frh 223 4 (by decide) (by decide) (by decide), z_o (by decide), z_o (by decide), z_o (by decide), z_o (by decide), z_o (by decide), z_o (by decide), z_o (by decide), z_o (by decide), z_o (by decide), z_o (by decide), z_o (by decide), z_o (by decide), z_o (by decide), z_o (by decide), z_o (by decide), z_o (by decide), z_o (by decide), z_o (by decide), u_o (by decide), z_o (by decide), z_o (by decide), z_o (by decide), z_o (by decide), z_o (by decide), z_o (by decide), z_o (by decide), z_o (by decide), z_o (by decide), z_o (by decide), z_o (by decide), z_o (by decide), z_o (by decide), z_o (by decide), z_o (by decide), z_o (by decide), z_o (by decide), hf 4]
  · rw [frh 223 5 (by decide) (by decide) (by decide), z_o (by decide), z_o (by decide), z_o (by decide), z_o (by decide), z_o (by decide), z_o (by decide), z_o (by decide), z_o (by decide), z_o (by decide), z_o (by decide), z_o (by decide), z_o (by decide), z_o (by decide), z_o (by decide), z_o (by decide), z_o (by decide), z_o (by decide), z_o (by decide), u_o (by decide), z_o (by decide), z_o (by decide), z_o (by decide), z_o (by decide), z_o (by decide), z_o (by decide), z_o (by decide), z_o (by decide), z_o (by decide), z_o (by decide), z_o (by decide), z_o (by decide), z_o (by decide), z_o (by decide), z_o (by decide), z_o (by decide), z_o (by decide), hf 5]
  · rw [frh 223 18 (by decide) (by decide) (by decide), z_o (by decide), z_o (by decide), z_o (by decide), z_o (by decide), z_o (by decide), z_o (by decide), z_o (by decide), z_o (by decide), z_o (by decide), z_o (by decide), z_o (by decide), z_o (by decide), z_o (by decide), z_o (by decide), z_o (by decide), z_o (by decide), z_o (by decide), z_o (by decide), u_o (by decide), z_o (by decide), z_o (by decide), z_o (by decide), z_o (by decide), z_o (by decide), z_o (by decide), z_o (by decide), z_o (by decide), z_o (by decide), z_o (by decide), z_o (by decide), z_o (by decide), z_o (by decide), z_o (by decide), z_o (by decide), z_o (by decide), z_o (by decide), hf 18]
  · rw [frh 223 23 (by decide) (by decide) (by decide), z_o (by decide), z_o (by decide), z_o (by decide), z_o (by decide), z_o (by decide), z_o (by decide), z_o (by decide), z_o (by decide), z_o (by decide), z_o (by decide), z_o (by decide), z_o (by decide), z_o (by decide), z_o (by decide), z_o (by decide), z_o (by decide), z_o (by decide), z_o (by decide), u_o (by decide), z_o (by decide), z_o (by decide), z_o (by decide), z_o (by decide), z_o (by decide), z_o (by decide), z_o (by decide), z_o (by decide), z_o (by decide), z_o (by decide), z_o (by decide), z_o (by decide), z_o (by decide), z_o (by decide), z_o (by decide), z_o (by decide), z_o (by decide), hf 23]
  · rw [frh 223 25 (by decide) (by decide) (by decide), z_o (by decide), z_o (by decide), z_o (by decide), z_o (by decide), z_o (by decide), z_o (by decide), z_o (by decide), z_o (by decide), z_o (by decide), z_o (by decide), z_o (by decide), z_o (by decide), z_o (by decide), z_o (by decide), z_o (by decide), z_o (by decide), z_o (by decide), z_o (by decide), u_o (by decide), z_o (by decide), z_o (by decide), z_o (by decide), z_o (by decide), z_o (by decide), z_o (by decide), z_o (by decide), z_o (by decide), z_o (by decide), z_o (by decide), z_o (by decide), z_o (by decide), z_o (by decide), z_o (by decide), z_o (by decide), z_o (by decide), z_o (by decide), hf 25]
  · rw [frh 223 31 (by decide) (by decide) (by decide), z_o (by decide), z_o (by decide), z_o (by decide), z_o (by decide), z_o (by decide), z_o (by decide), z_o (by decide), z_o (by decide), z_o (by decide), z_o (by decide), z_o (by decide), z_o (by decide), z_o (by decide), z_o (by decide), z_o (by decide), z_o (by decide), z_o (by decide), z_o (by decide), u_o (by decide), z_o (by decide), z_o (by decide), z_o (by decide), z_o (by decide), z_o (by decide), z_o (by decide), z_o (by decide), z_o (by decide), z_o (by decide), z_o (by decide), z_o (by decide), z_o (by decide), z_o (by decide), z_o (by decide), z_o (by decide), z_o (by decide), z_o (by decide), hf 31]
  · rw [frh 223 32 (by decide) (by decide) (by decide), z_o (by decide), z_o (by decide), z_o (by decide), z_o (by decide), z_o (by decide), z_o (by decide), z_o (by decide), z_o (by decide), z_o (by decide), z_o (by decide), z_o (by decide), z_o (by decide), z_o (by decide), z_o (by decide), z_o (by decide), z_o (by decide), z_o (by decide), z_o (by decide), u_self]
  · rw [frh 233 0 (by decide) (by decide) (by decide), z_o (by decide), z_o (by decide), z_o (by decide), z_o (by decide), z_o (by decide), z_o (by decide), z_o (by decide), z_o (by decide), z_o (by decide), z_o (by decide), z_o (by decide), z_o (by decide), z_o (by decide), z_o (by decide), z_o (by decide), z_o (by decide), z_o (by decide), z_o (by decide), u_o (by decide), z_o (by decide), z_o (by decide), z_o (by decide), z_o (by decide), z_o (by decide), z_o (by decide), z_o (by decide), z_s]
  · rw [fbh 104 (by decide), z_o (by decide), z_o (by decide), z_o (by decide), z_o (by decide), z_o (by decide), z_o (by decide), z_o (by decide), z_o (by decide), z_o (by decide), z_o (by decide), z_o (by decide), z_o (by decide), z_o (by decide), z_o (by decide), z_o (by decide), z_o (by decide), z_o (by decide), z_o (by decide), u_o (by decide), z_o (by decide), z_o (by decide), z_o (by decide), z_o (by decide), z_o (by decide), z_o (by decide), z_s]
