/-! place, edge: the class throws where the reference says which. -/
section MS
variable {y : Nat} {w w' : mj_W} {f f' : mj_F} {pc p' : Nat} {ls ls' st st' : List mj_V} {X : Option mj_O}
theorem ms_throw {idx k q : Nat} (d : mj_dec y pc = some (.new idx) ∧ mj_cl2 (mj_cn y) idx = some (11, k, q) ∧ mj_imp y = true) : mj_run y w f pc ls [] = some (mj_junk w, f, some (.inr (.inr (.inr k)))) := by
  obtain ⟨d, hq, hi⟩ := d
  refine mj_run_end ?_
  simp only [mj_nx, d, if_pos (Or.inl hi : mj_imp y = true ∨ mj_keepw y (.new idx) = true), mj_end, hq]
end MS
theorem c_X_place {sw : Bool} {w : mj_W} (hw : wk sw w) (f : mj_F) (x1 : Int) (x2 : Int)  : mj_call yX_place w f [.inr (.inl 2), .inl x1, .inl x2] = mj_bi (mj_call yX_isPlace w f [.inr (.inl 2), .inl x1]) (fun f1 v2 => if ¬ v2 = 0 then if x2 = 0 then mj_bi (mj_call yX_stayRules w f1 [.inl x1]) (fun f3 v4 => mj_gd (0 ≤ v4 ∧ v4 < ((24 : Nat) : Int)) (some (w, f3, some (.inl (f3 (pl sw + 4) v4.toNat))))) else if x2 = 1 then mj_bi (mj_call yL_edgesFrom w f1 [.inr (.inl (pl sw)), .inl x1]) (fun f6 v7 => some (w, f6, some (.inl v7))) else if x2 = 2 then mj_bi (mj_call yL_edgesTo w f1 [.inr (.inl (pl sw)), .inl x1]) (fun f8 v9 => some (w, f8, some (.inl v9))) else if x2 = 3 then mj_gd (0 ≤ x1 ∧ x1 < ((8 : Nat) : Int)) (some (w, f1, some (.inl (f1 44 x1.toNat)))) else if x2 = 4 then mj_bi (mj_call yG_nodesOf w f1 [.inr (.inl 37), .inl x1]) (fun f11 v12 => some (w, f11, some (.inl v12))) else some (mj_junk w, f1, some (.inr (.inr (.inr 2)))) else some (mj_junk w, f1, some (.inr (.inr (.inr 1))))) := by
  show mj_run yX_place w f 0 [.inr (.inl 2), .inl x1, .inl x2] [] = _
  refine ms_aload_n (k := 0) (p' := 1) (by decide +kernel) rfl rfl ?_
  refine ms_iload_n (k := 1) (p' := 2) (by decide +kernel) rfl rfl ?_
  refine ms_virt_i (idx := 107) (cy := yX_isPlace) (n := 1) (a := 2) (as := [.inl x1]) (rest := []) (p' := 5) (by decide +kernel) rfl rfl rfl rfl (k_2 hw) rfl (fun f1 v2 => ?_)
  refine ms_if_ne (off := 13) (t := 18) (p' := 8) (by decide +kernel) rfl (fun hc => ?_) (fun hc => ?_)
  · refine ms_iload_n (k := 2) (p' := 19) (by decide +kernel) rfl rfl ?_
    have hd : mj_dec yX_place 19 = some (.tableswitch 83 0 4 #[33, 46, 55, 64, 74]) := by decide +kernel
    by_cases hs0 : x2 = 0
    · rw [if_pos hs0]
      refine ms_tabIn (t := 52) hd (by omega) (by rw [hs0]; decide +kernel) ?_
      refine ms_aload_n (k := 0) (p' := 53) (by decide +kernel) rfl rfl ?_
      refine ms_getr (idx := 19) (ci := 8) (k := 1) (q := 519) (p' := 56) (by decide +kernel) rfl (k_2 hw) (r_2_1 hw) (pn_0 (pl_pn sw)) ?_
      refine ms_getr (idx := 117) (ci := 3) (k := 9) (q := 233) (p' := 59) (by decide +kernel) rfl (pn_k (pl_pn sw) hw) (pn_r9 (pl_pn sw) hw) (by omega) ?_
      refine ms_iload_n (k := 1) (p' := 60) (by decide +kernel) rfl rfl ?_
      refine ms_stat_i (idx := 120) (cy := yX_stayRules) (n := 1) (as := [.inl x1]) (rest := [.inr (.inl (pl sw + 4))]) (p' := 63) (by decide +kernel) rfl rfl rfl rfl rfl (fun f3 v4 => ?_)
      refine ms_iald (p' := 64) (by decide +kernel) rfl (pn_k9 (pl_pn sw) hw) (fun hj5 => ?_)
      exact ms_iret (by decide +kernel)
    · rw [if_neg hs0]
      by_cases hs1 : x2 = 1
      · rw [if_pos hs1]
        refine ms_tabIn (t := 65) hd (by omega) (by rw [hs1]; decide +kernel) ?_
        refine ms_aload_n (k := 0) (p' := 66) (by decide +kernel) rfl rfl ?_
        refine ms_getr (idx := 19) (ci := 8) (k := 1) (q := 519) (p' := 69) (by decide +kernel) rfl (k_2 hw) (r_2_1 hw) (pn_0 (pl_pn sw)) ?_
        refine ms_iload_n (k := 1) (p' := 70) (by decide +kernel) rfl rfl ?_
        refine ms_virt_i (idx := 124) (cy := yL_edgesFrom) (n := 1) (a := (pl sw)) (as := [.inl x1]) (rest := []) (p' := 73) (by decide +kernel) rfl rfl rfl rfl (pn_k (pl_pn sw) hw) rfl (fun f6 v7 => ?_)
        exact ms_iret (by decide +kernel)
      · rw [if_neg hs1]
        by_cases hs2 : x2 = 2
        · rw [if_pos hs2]
          refine ms_tabIn (t := 74) hd (by omega) (by rw [hs2]; decide +kernel) ?_
          refine ms_aload_n (k := 0) (p' := 75) (by decide +kernel) rfl rfl ?_
          refine ms_getr (idx := 19) (ci := 8) (k := 1) (q := 519) (p' := 78) (by decide +kernel) rfl (k_2 hw) (r_2_1 hw) (pn_0 (pl_pn sw)) ?_
          refine ms_iload_n (k := 1) (p' := 79) (by decide +kernel) rfl rfl ?_
          refine ms_virt_i (idx := 127) (cy := yL_edgesTo) (n := 1) (a := (pl sw)) (as := [.inl x1]) (rest := []) (p' := 82) (by decide +kernel) rfl rfl rfl rfl (pn_k (pl_pn sw) hw) rfl (fun f8 v9 => ?_)
          exact ms_iret (by decide +kernel)
        · rw [if_neg hs2]
          by_cases hs3 : x2 = 3
          · rw [if_pos hs3]
            refine ms_tabIn (t := 83) hd (by omega) (by rw [hs3]; decide +kernel) ?_
            refine ms_aload_n (k := 0) (p' := 84) (by decide +kernel) rfl rfl ?_
            refine ms_getr (idx := 44) (ci := 8) (k := 6) (q := 524) (p' := 87) (by decide +kernel) rfl (k_2 hw) (r_2_6 hw) (by decide) ?_
            refine ms_getr (idx := 130) (ci := 0) (k := 6) (q := 394) (p' := 90) (by decide +kernel) rfl (k_37 hw) (r_37_6 hw) (by decide) ?_
            refine ms_iload_n (k := 1) (p' := 91) (by decide +kernel) rfl rfl ?_
            refine ms_iald (p' := 92) (by decide +kernel) rfl (k_44 hw) (fun hj10 => ?_)
            exact ms_iret (by decide +kernel)
          · rw [if_neg hs3]
            by_cases hs4 : x2 = 4
            · rw [if_pos hs4]
              refine ms_tabIn (t := 93) hd (by omega) (by rw [hs4]; decide +kernel) ?_
              refine ms_aload_n (k := 0) (p' := 94) (by decide +kernel) rfl rfl ?_
              refine ms_getr (idx := 44) (ci := 8) (k := 6) (q := 524) (p' := 97) (by decide +kernel) rfl (k_2 hw) (r_2_6 hw) (by decide) ?_
              refine ms_iload_n (k := 1) (p' := 98) (by decide +kernel) rfl rfl ?_
              refine ms_virt_i (idx := 133) (cy := yG_nodesOf) (n := 1) (a := 37) (as := [.inl x1]) (rest := []) (p' := 101) (by decide +kernel) rfl rfl rfl rfl (k_37 hw) rfl (fun f11 v12 => ?_)
              exact ms_iret (by decide +kernel)
            · rw [if_neg hs4]
              refine ms_tabOut (t := 102) hd (by omega) (by decide +kernel) ?_
              exact ms_throw (idx := 136) (k := 2) (q := 1333) (by decide +kernel)
  · exact ms_throw (idx := 110) (k := 1) (q := 1254) (by decide +kernel)

theorem c_X_edge {sw : Bool} {w : mj_W} (hw : wk sw w) (f : mj_F) (x1 : Int) (x2 : Int)  : mj_call yX_edge w f [.inr (.inl 2), .inl x1, .inl x2] = mj_bi (mj_call yX_isEdge w f [.inr (.inl 2), .inl x1]) (fun f1 v2 => if ¬ v2 = 0 then if x2 = 0 then mj_gd (0 ≤ x1 ∧ x1 < ((16 : Nat) : Int)) (some (w, f1, some (.inl (f1 (pl sw + 8) x1.toNat)))) else if x2 = 1 then mj_gd (0 ≤ x1 ∧ x1 < ((16 : Nat) : Int)) (some (w, f1, some (.inl (f1 (pl sw + 9) x1.toNat)))) else if x2 = 2 then mj_bi (mj_call yX_edgeRules w f1 [.inl x1]) (fun f5 v6 => mj_gd (0 ≤ v6 ∧ v6 < ((24 : Nat) : Int)) (some (w, f5, some (.inl (f5 (pl sw + 4) v6.toNat))))) else if x2 = 3 then mj_gd (0 ≤ x1 ∧ x1 < ((16 : Nat) : Int)) (some (w, f1, some (.inl (f1 (pl sw + 10) x1.toNat)))) else if x2 = 4 then mj_bi (mj_call yG_hasNodeBy w f1 [.inr (.inl 37), .inl x1]) (fun f9 v10 => if v10 = 0 then some (w, f9, some (.inl 0)) else some (w, f9, some (.inl 1))) else some (mj_junk w, f1, some (.inr (.inr (.inr 2)))) else some (mj_junk w, f1, some (.inr (.inr (.inr 1))))) := by
  show mj_run yX_edge w f 0 [.inr (.inl 2), .inl x1, .inl x2] [] = _
  refine ms_aload_n (k := 0) (p' := 1) (by decide +kernel) rfl rfl ?_
  refine ms_iload_n (k := 1) (p' := 2) (by decide +kernel) rfl rfl ?_
  refine ms_virt_i (idx := 141) (cy := yX_isEdge) (n := 1) (a := 2) (as := [.inl x1]) (rest := []) (p' := 5) (by decide +kernel) rfl rfl rfl rfl (k_2 hw) rfl (fun f1 v2 => ?_)
  refine ms_if_ne (off := 13) (t := 18) (p' := 8) (by decide +kernel) rfl (fun hc => ?_) (fun hc => ?_)
  · refine ms_iload_n (k := 2) (p' := 19) (by decide +kernel) rfl rfl ?_
    have hd : mj_dec yX_edge 19 = some (.tableswitch 93 0 4 #[33, 43, 53, 66, 76]) := by decide +kernel
    by_cases hs0 : x2 = 0
    · rw [if_pos hs0]
      refine ms_tabIn (t := 52) hd (by omega) (by rw [hs0]; decide +kernel) ?_
      refine ms_aload_n (k := 0) (p' := 53) (by decide +kernel) rfl rfl ?_
      refine ms_getr (idx := 19) (ci := 8) (k := 1) (q := 519) (p' := 56) (by decide +kernel) rfl (k_2 hw) (r_2_1 hw) (pn_0 (pl_pn sw)) ?_
      refine ms_getr (idx := 146) (ci := 3) (k := 13) (q := 251) (p' := 59) (by decide +kernel) rfl (pn_k (pl_pn sw) hw) (pn_r13 (pl_pn sw) hw) (by omega) ?_
      refine ms_iload_n (k := 1) (p' := 60) (by decide +kernel) rfl rfl ?_
      refine ms_iald (p' := 61) (by decide +kernel) rfl (pn_k13 (pl_pn sw) hw) (fun hj3 => ?_)
      exact ms_iret (by decide +kernel)
    · rw [if_neg hs0]
      by_cases hs1 : x2 = 1
      · rw [if_pos hs1]
        refine ms_tabIn (t := 62) hd (by omega) (by rw [hs1]; decide +kernel) ?_
        refine ms_aload_n (k := 0) (p' := 63) (by decide +kernel) rfl rfl ?_
        refine ms_getr (idx := 19) (ci := 8) (k := 1) (q := 519) (p' := 66) (by decide +kernel) rfl (k_2 hw) (r_2_1 hw) (pn_0 (pl_pn sw)) ?_
        refine ms_getr (idx := 149) (ci := 3) (k := 14) (q := 258) (p' := 69) (by decide +kernel) rfl (pn_k (pl_pn sw) hw) (pn_r14 (pl_pn sw) hw) (by omega) ?_
        refine ms_iload_n (k := 1) (p' := 70) (by decide +kernel) rfl rfl ?_
        refine ms_iald (p' := 71) (by decide +kernel) rfl (pn_k14 (pl_pn sw) hw) (fun hj4 => ?_)
        exact ms_iret (by decide +kernel)
      · rw [if_neg hs1]
        by_cases hs2 : x2 = 2
        · rw [if_pos hs2]
          refine ms_tabIn (t := 72) hd (by omega) (by rw [hs2]; decide +kernel) ?_
          refine ms_aload_n (k := 0) (p' := 73) (by decide +kernel) rfl rfl ?_
          refine ms_getr (idx := 19) (ci := 8) (k := 1) (q := 519) (p' := 76) (by decide +kernel) rfl (k_2 hw) (r_2_1 hw) (pn_0 (pl_pn sw)) ?_
          refine ms_getr (idx := 117) (ci := 3) (k := 9) (q := 233) (p' := 79) (by decide +kernel) rfl (pn_k (pl_pn sw) hw) (pn_r9 (pl_pn sw) hw) (by omega) ?_
          refine ms_iload_n (k := 1) (p' := 80) (by decide +kernel) rfl rfl ?_
          refine ms_stat_i (idx := 152) (cy := yX_edgeRules) (n := 1) (as := [.inl x1]) (rest := [.inr (.inl (pl sw + 4))]) (p' := 83) (by decide +kernel) rfl rfl rfl rfl rfl (fun f5 v6 => ?_)
          refine ms_iald (p' := 84) (by decide +kernel) rfl (pn_k9 (pl_pn sw) hw) (fun hj7 => ?_)
          exact ms_iret (by decide +kernel)
        · rw [if_neg hs2]
          by_cases hs3 : x2 = 3
          · rw [if_pos hs3]
            refine ms_tabIn (t := 85) hd (by omega) (by rw [hs3]; decide +kernel) ?_
            refine ms_aload_n (k := 0) (p' := 86) (by decide +kernel) rfl rfl ?_
            refine ms_getr (idx := 19) (ci := 8) (k := 1) (q := 519) (p' := 89) (by decide +kernel) rfl (k_2 hw) (r_2_1 hw) (pn_0 (pl_pn sw)) ?_
            refine ms_getr (idx := 155) (ci := 3) (k := 15) (q := 263) (p' := 92) (by decide +kernel) rfl (pn_k (pl_pn sw) hw) (pn_r15 (pl_pn sw) hw) (by omega) ?_
            refine ms_iload_n (k := 1) (p' := 93) (by decide +kernel) rfl rfl ?_
            refine ms_iald (p' := 94) (by decide +kernel) rfl (pn_k15 (pl_pn sw) hw) (fun hj8 => ?_)
            exact ms_iret (by decide +kernel)
          · rw [if_neg hs3]
            by_cases hs4 : x2 = 4
            · rw [if_pos hs4]
              refine ms_tabIn (t := 95) hd (by omega) (by rw [hs4]; decide +kernel) ?_
              refine ms_aload_n (k := 0) (p' := 96) (by decide +kernel) rfl rfl ?_
              refine ms_getr (idx := 44) (ci := 8) (k := 6) (q := 524) (p' := 99) (by decide +kernel) rfl (k_2 hw) (r_2_6 hw) (by decide) ?_
              refine ms_iload_n (k := 1) (p' := 100) (by decide +kernel) rfl rfl ?_
              refine ms_virt_i (idx := 158) (cy := yG_hasNodeBy) (n := 1) (a := 37) (as := [.inl x1]) (rest := []) (p' := 103) (by decide +kernel) rfl rfl rfl rfl (k_37 hw) rfl (fun f9 v10 => ?_)
              refine ms_if_eq (off := 7) (t := 110) (p' := 106) (by decide +kernel) rfl (fun hc => ?_) (fun hc => ?_)
              · refine ms_iconst (n := 0) (v := 0) (p' := 111) (by decide +kernel) rfl ?_
                exact ms_iret (by decide +kernel)
              · refine ms_iconst (n := 1) (v := 1) (p' := 107) (by decide +kernel) rfl ?_
                refine ms_goto (off := 4) (p' := 111) (by decide +kernel) ?_
                exact ms_iret (by decide +kernel)
            · rw [if_neg hs4]
              refine ms_tabOut (t := 112) hd (by omega) (by decide +kernel) ?_
              exact ms_throw (idx := 136) (k := 2) (q := 1333) (by decide +kernel)
  · exact ms_throw (idx := 110) (k := 1) (q := 1254) (by decide +kernel)


def ctN (g : Nat → Int) (x : Int) : Nat → Nat
  | 0 => 0
  | n + 1 => ctN g x n + (if g n = x then 1 else 0)
theorem ctN_le (g : Nat → Int) (x : Int) : ∀ n, ctN g x n ≤ n
  | 0 => Nat.le_refl _
  | n + 1 => by
    have := ctN_le g x n
    show ctN g x n + (if g n = x then 1 else 0) ≤ n + 1
    split <;> omega
theorem ctN_c {g h : Nat → Int} (x : Int) : ∀ {n : Nat}, (∀ k, k < n → g k = h k) → ctN g x n = ctN h x n
  | 0, _ => rfl
  | n + 1, e => by
    show ctN g x n + (if g n = x then 1 else 0) = ctN h x n + (if h n = x then 1 else 0)
    rw [ctN_c x (fun k hk => e k (by omega)), e n (by omega)]
theorem ctN_y {g : Nat → Int} {x : Int} {k : Nat} (h : g k = x) (hk : k < 100) : mj_w ((ctN g x k : Int) + 1) = ((ctN g x (k + 1) : Nat) : Int) := by
  have a := ctN_le g x k
  have e : ctN g x (k + 1) = ctN g x k + 1 := by show _ + (if g k = x then 1 else 0) = _; rw [if_pos h]
  rw [e, w_id (by omega)]
  omega
theorem ctN_n {g : Nat → Int} {x : Int} {k : Nat} (h : ¬ g k = x) (hk : k < 100) : mj_w ((ctN g x k : Int) + 0) = ((ctN g x (k + 1) : Nat) : Int) := by
  have a := ctN_le g x k
  have e : ctN g x (k + 1) = ctN g x k := by show _ + (if g k = x then 1 else 0) = _; rw [if_neg h]; omega
  rw [e, w_id (by omega)]
  omega
section PE
variable {sw : Bool} {w : mj_W}
theorem L_edgesFrom (hw : wk sw w) {p : Nat} (hp : pn p) (f : mj_F) {m : Nat} (hm : m ≤ 16) (h3 : f p 3 = (m : Int)) (x : Int) : mj_call yL_edgesFrom w f [.inr (.inl p), .inl x] = some (w, f, some (.inl ((ctN (f (p + 8)) x m : Nat) : Int))) := by
  rw [c_L_edgesFrom hw _ _ _ hp]
  have h := loop_st (fun k => mj_run yL_edgesFrom w f 4 [.inr (.inl p), .inl x, .inl ((ctN (f (p + 8)) x k : Nat) : Int), .inl (k : Int)] []) (Nat.zero_le m) (fun k _ hk => by
    rw [l_L_edgesFrom_4 hw _ _ _ _ _ hp, h3, if_neg (by omega), mj_gd_pos (by omega), Int.toNat_natCast, wS (by omega)]
    by_cases hq : f (p + 8) k = x
    · rw [if_neg (fun q => q hq), ctN_y (g := f (p + 8)) hq (by omega)]
    · rw [if_pos hq, ctN_n (g := f (p + 8)) hq (by omega)])
  refine h.trans ?_
  rw [l_L_edgesFrom_4 hw _ _ _ _ _ hp, h3, if_pos (by omega)]
theorem L_edgesTo (hw : wk sw w) {p : Nat} (hp : pn p) (f : mj_F) {m : Nat} (hm : m ≤ 16) (h3 : f p 3 = (m : Int)) (x : Int) : mj_call yL_edgesTo w f [.inr (.inl p), .inl x] = some (w, f, some (.inl ((ctN (f (p + 9)) x m : Nat) : Int))) := by
  rw [c_L_edgesTo hw _ _ _ hp]
  have h := loop_st (fun k => mj_run yL_edgesTo w f 4 [.inr (.inl p), .inl x, .inl ((ctN (f (p + 9)) x k : Nat) : Int), .inl (k : Int)] []) (Nat.zero_le m) (fun k _ hk => by
    rw [l_L_edgesTo_4 hw _ _ _ _ _ hp, h3, if_neg (by omega), mj_gd_pos (by omega), Int.toNat_natCast, wS (by omega)]
    by_cases hq : f (p + 9) k = x
    · rw [if_neg (fun q => q hq), ctN_y (g := f (p + 9)) hq (by omega)]
    · rw [if_pos hq, ctN_n (g := f (p + 9)) hq (by omega)])
  refine h.trans ?_
  rw [l_L_edgesTo_4 hw _ _ _ _ _ hp, h3, if_pos (by omega)]
theorem G_nodesOf (hw : wk sw w)  (f : mj_F) {m : Nat} (hm : m ≤ 60) (h3 : f 37 9 = (m : Int)) (x : Int) : mj_call yG_nodesOf w f [.inr (.inl 37), .inl x] = some (w, f, some (.inl ((ctN (f 39) x m : Nat) : Int))) := by
  rw [c_G_nodesOf hw ]
  have h := loop_st (fun k => mj_run yG_nodesOf w f 4 [.inr (.inl 37), .inl x, .inl ((ctN (f 39) x k : Nat) : Int), .inl (k : Int)] []) (Nat.zero_le m) (fun k _ hk => by
    rw [l_G_nodesOf_4 hw _ _ _ _, h3, if_neg (by omega), mj_gd_pos (by omega), Int.toNat_natCast, wS (by omega)]
    by_cases hq : f 39 k = x
    · rw [if_neg (fun q => q hq), ctN_y (g := f 39) hq (by omega)]
    · rw [if_pos hq, ctN_n (g := f 39) hq (by omega)])
  refine h.trans ?_
  rw [l_G_nodesOf_4 hw _ _ _ _, h3, if_pos (by omega)]
theorem G_hasNodeBy (hw : wk sw w) (f : mj_F) {m : Nat} (hm : m ≤ 60) (h3 : f 37 9 = (m : Int)) (x : Int) : mj_call yG_hasNodeBy w f [.inr (.inl 37), .inl x] = some (w, f, some (.inl (if any m (fun k => decide (f 41 k = x)) = true then 1 else 0))) := by
  rw [c_G_hasNodeBy hw]
  have h := loop_any (fun k (_ : Unit) => mj_run yG_hasNodeBy w f 2 [.inr (.inl 37), .inl x, .inl (k : Int)] []) (some (w, f, some (.inl 1))) (fun k => decide (f 41 k = x)) m (fun k _ hk hq => by
    have hq' : f 41 k = x := of_decide_eq_true hq
    show mj_run yG_hasNodeBy w f 2 _ _ = _
    rw [l_G_hasNodeBy_2 hw, h3, if_neg (by omega), mj_gd_pos (by omega), Int.toNat_natCast, if_neg (fun q => q hq')]) (fun k _ hk hq => by
    have hq' : ¬ f 41 k = x := of_decide_eq_false hq
    refine ⟨(), ?_⟩
    show mj_run yG_hasNodeBy w f 2 _ _ = mj_run yG_hasNodeBy w f 2 _ _
    rw [l_G_hasNodeBy_2 hw, h3, if_neg (by omega), mj_gd_pos (by omega), Int.toNat_natCast, if_pos hq', wS (by omega)]) ()
  rcases h with ⟨a, b⟩ | ⟨a, _, b⟩
  · rw [if_pos a]; exact b
  · rw [if_neg (by rw [a]; decide)]
    refine b.trans ?_
    show mj_run yG_hasNodeBy w f 2 _ _ = _
    rw [l_G_hasNodeBy_2 hw, h3, if_pos (by omega)]
theorem M_edge_4 (hw : wk sw w) (f : mj_F) {m : Nat} (hm : m ≤ 60) (h3 : f 223 23 = (m : Int)) (x y : Int) : mj_run yM_edge w f 95 [.inr (.inl 223), .inl x, .inl y, .inl 0] [] = some (w, f, some (.inl (if any m (fun k => decide (f 238 k = x)) = true then 1 else 0))) := by
  have h := loop_any (fun k (_ : Unit) => mj_run yM_edge w f 95 [.inr (.inl 223), .inl x, .inl y, .inl (k : Int)] []) (some (w, f, some (.inl 1))) (fun k => decide (f 238 k = x)) m (fun k _ hk hq => by
    have hq' : f 238 k = x := of_decide_eq_true hq
    show mj_run yM_edge w f 95 _ _ = _
    rw [l_M_edge_95 hw, h3, if_neg (by omega), mj_gd_pos (by omega), Int.toNat_natCast, if_neg (fun q => q hq')]) (fun k _ hk hq => by
    have hq' : ¬ f 238 k = x := of_decide_eq_false hq
    refine ⟨(), ?_⟩
    show mj_run yM_edge w f 95 _ _ = mj_run yM_edge w f 95 _ _
    rw [l_M_edge_95 hw, h3, if_neg (by omega), mj_gd_pos (by omega), Int.toNat_natCast, if_pos hq', wS (by omega)]) ()
  rcases h with ⟨a, b⟩ | ⟨a, _, b⟩
  · rw [if_pos a]; exact b
  · rw [if_neg (by rw [a]; decide)]
    refine b.trans ?_
    show mj_run yM_edge w f 95 _ _ = _
    rw [l_M_edge_95 hw, h3, if_pos (by omega)]
/-- the reference's rows behind: nothing more is counted -/
theorem M_place_n (hw : wk sw w) (f : mj_F) {m s : Nat} (hm : m ≤ 60) (hs : s ≤ 60) (h3 : f 223 23 = (m : Int)) (x : Int) {y : Int} (hy : ¬ y = 4) : mj_run yM_place w f 127 [.inr (.inl 223), .inl x, .inl y, .inl (s : Int), .inl 0] [] = some (w, f, some (.inl (s : Int))) := by
  have h := loop_st (fun k => mj_run yM_place w f 127 [.inr (.inl 223), .inl x, .inl y, .inl (s : Int), .inl (k : Int)] []) (Nat.zero_le m) (fun k _ hk => by
    have e : mj_w ((s : Int) + 0) = (s : Int) := by rw [w_id (by omega)]; omega
    rw [l_M_place_127 hw, h3, if_neg (by omega), if_pos hy, wS (by omega), e])
  refine h.trans ?_
  rw [l_M_place_127 hw, h3, if_pos (by omega)]
theorem M_place_4 (hw : wk sw w) (f : mj_F) {m ne : Nat} (hm : m ≤ 60) (hn : ne ≤ 16) (h3 : f 223 23 = (m : Int)) (h4 : f 223 4 = (ne : Int)) (x : Int) (hx : 0 ≤ x) : mj_run yM_place w f 66 [.inr (.inl 223), .inl x, .inl 4, .inl 0, .inl 0] [] = some (w, f, some (.inl ((ctN (f 236) x m : Nat) : Int))) := by
  have h1 := loop_st (fun k => mj_run yM_place w f 66 [.inr (.inl 223), .inl x, .inl 4, .inl 0, .inl (k : Int)] []) (Nat.zero_le ne) (fun k _ hk => by
    rw [l_M_place_66 hw, h4, if_neg (by omega), if_pos (by decide), if_pos (by decide), if_pos (by omega), wS (by omega)]
    rfl)
  refine h1.trans ?_
  rw [l_M_place_66 hw, h4, if_pos (by omega)]
  have h := loop_st (fun k => mj_run yM_place w f 127 [.inr (.inl 223), .inl x, .inl 4, .inl ((ctN (f 236) x k : Nat) : Int), .inl (k : Int)] []) (Nat.zero_le m) (fun k _ hk => by
    rw [l_M_place_127 hw, h3, if_neg (by omega), if_neg (by decide), mj_gd_pos (by omega), Int.toNat_natCast, wS (by omega)]
    by_cases hq : f 236 k = x
    · rw [if_neg (fun q => q hq), ctN_y (g := f 236) hq (by omega)]
    · rw [if_pos hq, ctN_n (g := f 236) hq (by omega)])
  refine h.trans ?_
  rw [l_M_place_127 hw, h3, if_pos (by omega)]
theorem M_place_1 (hw : wk sw w) (f : mj_F) {m ne : Nat} (hm : m ≤ 60) (hn : ne ≤ 16) (h3 : f 223 23 = (m : Int)) (h4 : f 223 4 = (ne : Int)) (x : Int) : mj_run yM_place w f 66 [.inr (.inl 223), .inl x, .inl 1, .inl 0, .inl 0] [] = some (w, f, some (.inl ((ctN (f 228) x ne : Nat) : Int))) := by
  have h1 := loop_st (fun k => mj_run yM_place w f 66 [.inr (.inl 223), .inl x, .inl 1, .inl ((ctN (f 228) x k : Nat) : Int), .inl (k : Int)] []) (Nat.zero_le ne) (fun k _ hk => by
    rw [l_M_place_66 hw, h4, if_neg (by omega), if_neg (by decide), mj_gd_pos (by omega), Int.toNat_natCast, wS (by omega)]
    by_cases hq : f 228 k = x
    · rw [if_neg (fun q => q hq), ctN_y (g := f 228) hq (by omega)]
    · rw [if_pos hq, ctN_n (g := f 228) hq (by omega)])
  refine h1.trans ?_
  have := ctN_le (f 228) x ne
  rw [l_M_place_66 hw, h4, if_pos (by omega)]
  exact M_place_n hw f hm (by omega) h3 x (by decide)
theorem M_place_2 (hw : wk sw w) (f : mj_F) {m ne : Nat} (hm : m ≤ 60) (hn : ne ≤ 16) (h3 : f 223 23 = (m : Int)) (h4 : f 223 4 = (ne : Int)) (x : Int) : mj_run yM_place w f 66 [.inr (.inl 223), .inl x, .inl 2, .inl 0, .inl 0] [] = some (w, f, some (.inl ((ctN (f 229) x ne : Nat) : Int))) := by
  have h1 := loop_st (fun k => mj_run yM_place w f 66 [.inr (.inl 223), .inl x, .inl 2, .inl ((ctN (f 229) x k : Nat) : Int), .inl (k : Int)] []) (Nat.zero_le ne) (fun k _ hk => by
    rw [l_M_place_66 hw, h4, if_neg (by omega), if_pos (by decide), if_neg (by decide), mj_gd_pos (by omega), Int.toNat_natCast, wS (by omega)]
    by_cases hq : f 229 k = x
    · rw [if_neg (fun q => q hq), ctN_y (g := f 229) hq (by omega)]
    · rw [if_pos hq, ctN_n (g := f 229) hq (by omega)])
  refine h1.trans ?_
  have := ctN_le (f 229) x ne
  rw [l_M_place_66 hw, h4, if_pos (by omega)]
  exact M_place_n hw f hm (by omega) h3 x (by decide)
/-- what both come to: thrown k, or the answer v; behind it the law's row 259 may be written -/
def OkE (sw : Bool) (w : mj_W) (f : mj_F) (yX yM : Nat) (as : List mj_V) : Prop :=
  ∃ (k : Nat) (v : Int), ((k = 0 ∧ mj_call yX w f (.inr (.inl 2) :: as) = some (w, f, some (.inl v))) ∨ ((k = 1 ∨ k = 2) ∧ mj_call yX w f (.inr (.inl 2) :: as) = some (mj_junk w, f, some (.inr (.inr (.inr k)))))) ∧
    ∀ (w' : mj_W) (g : mj_F), wk sw w' → Cor sw f g → ∃ u : Int, (k = 0 → u = v) ∧ mj_call yM w' g (.inr (.inl 223) :: as) = some (w', mj_u g 223 0 (k : Int), some (.inl u)) ∧ RR sw (mj_u g 223 0 (k : Int))
theorem Cor_k {f : mj_F} {k : Int} : Cor sw f (mj_u f 223 0 k) := Cor_u (Or.inr (Or.inr (Or.inr (Or.inr ⟨rfl, by unfold cM; omega⟩))))
theorem RR_Cor {f g : mj_F} (r : RR sw f) (h : Cor sw f g) : RR sw g := by
  obtain ⟨c, np, ne, st, N, L, nx, d, tp, ed, rx⟩ := r
  exact ⟨c, np, ne, st, N, L, nx, d, tp, ed, RX_c h rx⟩
theorem ok_place (hw : wk sw w) {f : mj_F} (r : RR sw f) (x1 x2 : Int) : OkE sw w f yX_place yM_place [.inl x1, .inl x2] := by
  have r0 := r
  obtain ⟨c, np, ne, st, N, L, nx, d, tp, ed, rx⟩ := r
  have ra := rx.1
  have rc := rx.2.2.1
  have hb : np ≤ 8 ∧ ne ≤ 16 := ⟨ra.1.2.1, ra.1.2.2.1⟩
  have hN := rc.1
  have eX := c_X_place hw f x1 x2
  rw [X_isPlace hw f ra.2.1.2.2.2.1 x1, mj_bi_some] at eX
  by_cases h1 : 0 ≤ x1 ∧ x1 < (np : Int)
  · rw [if_pos h1, if_pos (by decide)] at eX
    obtain ⟨p, rfl⟩ : ∃ p : Nat, x1 = (p : Int) := ⟨x1.toNat, by omega⟩
    have hp : p < np := by omega
    by_cases h2 : 0 ≤ x2 ∧ x2 ≤ 4
    · have fin : ∀ v : Int, mj_call yX_place w f [.inr (.inl 2), .inl (p : Int), .inl x2] = some (w, f, some (.inl v)) → (∀ (w' : mj_W) (g : mj_F), wk sw w' → Cor sw f g → RX sw (mj_u g 223 0 0) c np ne st N L nx d tp ed → (if ¬ x2 = 0 then if ¬ x2 = 3 then mj_run yM_place w' (mj_u g 223 0 0) 66 [.inr (.inl 223), .inl (p : Int), .inl x2, .inl 0, .inl 0] [] else mj_bi (mj_call yM_firstNode w' (mj_u g 223 0 0) [.inr (.inl 223), .inl (p : Int)]) (fun f3 v4 => some (w', f3, some (.inl v4))) else mj_gd (0 ≤ (p : Int) ∧ (p : Int) < ((24 : Nat) : Int)) (some (w', (mj_u g 223 0 0), some (.inl ((mj_u g 223 0 0) 224 (p : Int).toNat))))) = some (w', mj_u g 223 0 0, some (.inl v))) → OkE sw w f yX_place yM_place [.inl (p : Int), .inl x2] := by
        intro v a b
        refine ⟨0, v, Or.inl ⟨rfl, a⟩, fun w' g hw' hg => ⟨v, fun _ => rfl, ?_, ?_⟩⟩
        · have rg := RX_c hg rx
          rw [c_M_place hw', M_isPlace hw' g rg.1.2.1.2.2.2.2.1 (by omega) _, mj_bi_some, if_pos h1, if_neg (by decide), M_isIn hw', mj_bi_some, if_pos h2, if_neg (by decide), u_self, if_pos (by decide)]
          exact b w' g hw' hg (RX_c (Cor_0) rg)
        · exact RR_Cor r0 (Cor_t hg (Cor_0))
      by_cases q0 : x2 = 0
      · rw [if_pos q0, X_stayRules hw, mj_bi_some, mj_gd_pos (by omega), Int.toNat_natCast] at eX
        refine fin _ eX (fun w' g hw' hg rg => ?_)
        rw [if_neg (fun q => q q0), mj_gd_pos (by omega), Int.toNat_natCast]
        obtain ⟨m, _, e1, e2, _⟩ := rg.1.2.2.1 p hp
        rw [← (Cor_t hg Cor_0).1 (pl sw + 4) (cA_pl (by omega)), e1, e2]
      · rw [if_neg q0] at eX
        by_cases q1 : x2 = 1
        · rw [if_pos q1, L_edgesFrom hw (pl_pn sw) f hb.2 ra.2.1.2.2.2.2.2.1, mj_bi_some] at eX
          refine fin _ eX (fun w' g hw' hg rg => ?_)
          subst q1
          rw [if_pos (by decide), if_pos (by decide), M_place_1 hw' _ hN hb.2 rg.2.2.1.2.2.1 rg.1.2.1.2.2.2.2.2.2.1, ctN_c _ (h := f (pl sw + 8))]
          intro k hk
          obtain ⟨_, _, a, b, _, _, e1, e2, _⟩ := rg.1.2.2.2.1 k hk
          rw [e2, ← e1, (Cor_t hg (Cor_0)).1 (pl sw + 8) (cA_pl (by omega))]
        · rw [if_neg q1] at eX
          by_cases q2 : x2 = 2
          · rw [if_pos q2, L_edgesTo hw (pl_pn sw) f hb.2 ra.2.1.2.2.2.2.2.1, mj_bi_some] at eX
            refine fin _ eX (fun w' g hw' hg rg => ?_)
            subst q2
            rw [if_pos (by decide), if_pos (by decide), M_place_2 hw' _ hN hb.2 rg.2.2.1.2.2.1 rg.1.2.1.2.2.2.2.2.2.1, ctN_c _ (h := f (pl sw + 9))]
            intro k hk
            obtain ⟨_, _, a, b, _, _, _, _, e1, e2⟩ := rg.1.2.2.2.1 k hk
            rw [e2, ← e1, (Cor_t hg (Cor_0)).1 (pl sw + 9) (cA_pl (by omega))]
          · rw [if_neg q2] at eX
            by_cases q3 : x2 = 3
            · rw [if_pos q3, mj_gd_pos (by omega), Int.toNat_natCast] at eX
              refine fin _ eX (fun w' g hw' hg rg => ?_)
              rw [if_pos q0, if_neg (fun q => q q3), M_firstNode hw' rg.2.2.1 hp, mj_bi_some, (Cor_t hg (Cor_0)).1 44 (cA_g (by omega))]
            · have q4 : x2 = 4 := by omega
              rw [if_neg q3, if_pos q4, G_nodesOf hw f hN rc.2.1, mj_bi_some] at eX
              refine fin _ eX (fun w' g hw' hg rg => ?_)
              subst q4
              rw [if_pos (by decide), if_pos (by decide), M_place_4 hw' _ hN hb.2 rg.2.2.1.2.2.1 rg.1.2.1.2.2.2.2.2.2.1 _ (by omega), ctN_c _ (h := f 39)]
              intro k hk
              obtain ⟨⟨a, _, e1, e2⟩, _⟩ := rg.2.2.1.2.2.2.1 k hk
              rw [e2, ← e1, (Cor_t hg (Cor_0)).1 39 (cA_g (by omega))]
    · rw [if_neg (by omega), if_neg (by omega), if_neg (by omega), if_neg (by omega), if_neg (by omega)] at eX
      refine ⟨2, 0, Or.inr ⟨Or.inr rfl, eX⟩, fun w' g hw' hg => ⟨0, fun q => absurd q (by decide), ?_, RR_Cor r0 (Cor_t hg (Cor_k))⟩⟩
      have rg := RX_c hg rx
      rw [c_M_place hw', M_isPlace hw' g rg.1.2.1.2.2.2.2.1 (by omega) _, mj_bi_some, if_pos h1, if_neg (by decide), M_isIn hw', mj_bi_some, if_neg h2, if_pos rfl, u_self, if_neg (by decide)]
      rfl
  · rw [if_neg h1, if_neg (fun q => q rfl)] at eX
    refine ⟨1, 0, Or.inr ⟨Or.inl rfl, eX⟩, fun w' g hw' hg => ⟨0, fun q => absurd q (by decide), ?_, RR_Cor r0 (Cor_t hg (Cor_k))⟩⟩
    have rg := RX_c hg rx
    rw [c_M_place hw', M_isPlace hw' g rg.1.2.1.2.2.2.2.1 (by omega) _, mj_bi_some, if_neg h1, if_pos rfl, u_self, if_neg (by decide)]
    rfl
theorem ok_edge (hw : wk sw w) {f : mj_F} (r : RR sw f) (x1 x2 : Int) : OkE sw w f yX_edge yM_edge [.inl x1, .inl x2] := by
  have r0 := r
  obtain ⟨c, np, ne, st, N, L, nx, d, tp, ed, rx⟩ := r
  have ra := rx.1
  have rc := rx.2.2.1
  have hb : np ≤ 8 ∧ ne ≤ 16 := ⟨ra.1.2.1, ra.1.2.2.1⟩
  have hN := rc.1
  have eX := c_X_edge hw f x1 x2
  rw [X_isEdge hw f ra.2.1.2.2.2.2.2.1 x1, mj_bi_some] at eX
  by_cases h1 : 0 ≤ x1 ∧ x1 < (ne : Int)
  · rw [if_pos h1, if_pos (by decide)] at eX
    obtain ⟨p, rfl⟩ : ∃ p : Nat, x1 = (p : Int) := ⟨x1.toNat, by omega⟩
    have hp : p < ne := by omega
    by_cases h2 : 0 ≤ x2 ∧ x2 ≤ 4
    · have fin : ∀ v : Int, mj_call yX_edge w f [.inr (.inl 2), .inl (p : Int), .inl x2] = some (w, f, some (.inl v)) → (∀ (w' : mj_W) (g : mj_F), wk sw w' → Cor sw f g → RX sw (mj_u g 223 0 0) c np ne st N L nx d tp ed → (if 2 ≤ x2 then if 4 ≤ x2 then mj_run yM_edge w' (mj_u g 223 0 0) 95 [.inr (.inl 223), .inl (p : Int), .inl x2, .inl 0] [] else if ¬ x2 = 2 then mj_gd (0 ≤ (p : Int) ∧ (p : Int) < ((16 : Nat) : Int)) (some (w', (mj_u g 223 0 0), some (.inl ((mj_u g 223 0 0) 230 (p : Int).toNat)))) else mj_gd (0 ≤ (mj_w (8 + (p : Int))) ∧ (mj_w (8 + (p : Int))) < ((24 : Nat) : Int)) (some (w', (mj_u g 223 0 0), some (.inl ((mj_u g 223 0 0) 224 (mj_w (8 + (p : Int))).toNat)))) else if ¬ x2 = 0 then mj_gd (0 ≤ (p : Int) ∧ (p : Int) < ((16 : Nat) : Int)) (some (w', (mj_u g 223 0 0), some (.inl ((mj_u g 223 0 0) 229 (p : Int).toNat)))) else mj_gd (0 ≤ (p : Int) ∧ (p : Int) < ((16 : Nat) : Int)) (some (w', (mj_u g 223 0 0), some (.inl ((mj_u g 223 0 0) 228 (p : Int).toNat))))) = some (w', mj_u g 223 0 0, some (.inl v))) → OkE sw w f yX_edge yM_edge [.inl (p : Int), .inl x2] := by
        intro v a b
        refine ⟨0, v, Or.inl ⟨rfl, a⟩, fun w' g hw' hg => ⟨v, fun _ => rfl, ?_, ?_⟩⟩
        · have rg := RX_c hg rx
          rw [c_M_edge hw', M_isEdge hw' g rg.1.2.1.2.2.2.2.2.2.1 (by omega) _, mj_bi_some, if_pos h1, if_neg (by decide), M_isIn hw', mj_bi_some, if_pos h2, if_neg (by decide), u_self, if_pos (by decide)]
          exact b w' g hw' hg (RX_c (Cor_0) rg)
        · exact RR_Cor r0 (Cor_t hg (Cor_0))
      by_cases q0 : x2 = 0
      · rw [if_pos q0, mj_gd_pos (by omega), Int.toNat_natCast] at eX
        refine fin _ eX (fun w' g hw' hg rg => ?_)
        rw [if_neg (show ¬ 2 ≤ x2 by omega), if_neg (fun q => q q0), mj_gd_pos (by omega), Int.toNat_natCast]
        obtain ⟨_, _, a, b, _, _, e1, e2, _⟩ := rg.1.2.2.2.1 p hp
        rw [← (Cor_t hg Cor_0).1 (pl sw + 8) (cA_pl (by omega)), e1, e2]
      · rw [if_neg q0] at eX
        by_cases q1 : x2 = 1
        · rw [if_pos q1, mj_gd_pos (by omega), Int.toNat_natCast] at eX
          refine fin _ eX (fun w' g hw' hg rg => ?_)
          rw [if_neg (show ¬ 2 ≤ x2 by omega), if_pos q0, mj_gd_pos (by omega), Int.toNat_natCast]
          obtain ⟨_, _, a, b, _, _, _, _, e1, e2⟩ := rg.1.2.2.2.1 p hp
          rw [← (Cor_t hg Cor_0).1 (pl sw + 9) (cA_pl (by omega)), e1, e2]
        · rw [if_neg q1] at eX
          by_cases q2 : x2 = 2
          · rw [if_pos q2, X_edgeRules hw f (show p < 16 by omega), mj_bi_some, mj_gd_pos (by omega), Int.toNat_natCast] at eX
            refine fin _ eX (fun w' g hw' hg rg => ?_)
            rw [if_pos (show 2 ≤ x2 by omega), if_neg (show ¬ 4 ≤ x2 by omega), if_neg (fun q => q q2), w8N (by omega), mj_gd_pos (by omega), Int.toNat_natCast]
            obtain ⟨⟨m, _, e1, e2, _⟩, _⟩ := rg.1.2.2.2.1 p hp
            rw [← (Cor_t hg Cor_0).1 (pl sw + 4) (cA_pl (by omega)), e1, e2]
          · rw [if_neg q2] at eX
            by_cases q3 : x2 = 3
            · rw [if_pos q3, mj_gd_pos (by omega), Int.toNat_natCast] at eX
              refine fin _ eX (fun w' g hw' hg rg => ?_)
              rw [if_pos (show 2 ≤ x2 by omega), if_neg (show ¬ 4 ≤ x2 by omega), if_pos q2, mj_gd_pos (by omega), Int.toNat_natCast]
              obtain ⟨_, ⟨m, _, e1, e2, _⟩, _⟩ := rg.1.2.2.2.1 p hp
              rw [← (Cor_t hg Cor_0).1 (pl sw + 10) (cA_pl (by omega)), e1, e2]
            · have q4 : x2 = 4 := by omega
              rw [if_neg q3, if_pos q4, G_hasNodeBy hw f hN rc.2.1, mj_bi_some] at eX
              have eX' : mj_call yX_edge w f [.inr (.inl 2), .inl (p : Int), .inl x2] = some (w, f, some (.inl (if any N (fun k => decide (f 41 k = (p : Int))) = true then 1 else 0))) := by
                refine eX.trans ?_
                by_cases hq : any N (fun k => decide (f 41 k = (p : Int))) = true
                · rw [if_pos hq]; rfl
                · rw [if_neg hq]; rfl
              refine fin _ eX' (fun w' g hw' hg rg => ?_)
              rw [if_pos (show 2 ≤ x2 by omega), if_pos (show 4 ≤ x2 by omega), M_edge_4 hw' _ hN rg.2.2.1.2.2.1]
              have e : any N (fun k => decide (mj_u g 223 0 0 238 k = (p : Int))) = any N (fun k => decide (f 41 k = (p : Int))) := any_congr (fun k hk => by
                obtain ⟨_, _, e1, _⟩ := rg.2.2.1.2.2.2.1 k hk
                rw [← e1, (Cor_t hg Cor_0).1 41 (cA_g (by omega))])
              rw [e]
    · rw [if_neg (by omega), if_neg (by omega), if_neg (by omega), if_neg (by omega), if_neg (by omega)] at eX
      refine ⟨2, 0, Or.inr ⟨Or.inr rfl, eX⟩, fun w' g hw' hg => ⟨0, fun q => absurd q (by decide), ?_, RR_Cor r0 (Cor_t hg (Cor_k))⟩⟩
      have rg := RX_c hg rx
      rw [c_M_edge hw', M_isEdge hw' g rg.1.2.1.2.2.2.2.2.2.1 (by omega) _, mj_bi_some, if_pos h1, if_neg (by decide), M_isIn hw', mj_bi_some, if_neg h2, if_pos rfl, u_self, if_neg (by decide)]
      rfl
  · rw [if_neg h1, if_neg (fun q => q rfl)] at eX
    refine ⟨1, 0, Or.inr ⟨Or.inl rfl, eX⟩, fun w' g hw' hg => ⟨0, fun q => absurd q (by decide), ?_, RR_Cor r0 (Cor_t hg (Cor_k))⟩⟩
    have rg := RX_c hg rx
    rw [c_M_edge hw', M_isEdge hw' g rg.1.2.1.2.2.2.2.2.2.1 (by omega) _, mj_bi_some, if_neg h1, if_pos rfl, u_self, if_neg (by decide)]
    rfl
end PE
