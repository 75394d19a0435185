/-! Undo, a step backwards; the class's step backwards, its timed table. -/
section RR
variable {sw : Bool} {w : mj_W}
theorem M_undo_0 (hw : wk sw w) (f : mj_F) (hd : f 223 18 = 0) : mj_call yM_undo w f [.inr (.inl 223)] = some (w, mj_u f 223 0 0, some (.inl (-1))) := by
  rw [c_M_undo hw, u_o (Or.inr (by decide)), if_neg (fun q => q hd)]
theorem M_undo_S (hw : wk sw w) (f : mj_F) {d : Nat} (hd : f 223 18 = ((d + 1 : Nat) : Int)) (h16 : d < 16) : mj_call yM_undo w f [.inr (.inl 223)] = some (w, bkn (mj_u (mj_u f 223 0 0) 223 18 (d : Int)) d 125, some (.inl (d : Int))) := by
  have e0 : mj_w (((d + 1 : Nat) : Int) - 1) = (d : Int) := by unfold mj_w; omega
  rw [c_M_undo hw, u_o (Or.inr (by decide)), hd, if_pos (by omega), e0]
  generalize hF : mj_u (mj_u f 223 0 0) 223 18 (d : Int) = F
  have hFd : F 223 18 = (d : Int) := by rw [← hF]; exact u_self
  have hdm : ∀ m, bkn F d m 223 18 = (d : Int) := by
    intro m
    unfold bkn
    rw [if_neg (by omega)]
    exact hFd
  have h := loop_st (fun k => mj_run yM_undo w (bkn F d k) 26 [.inr (.inl 223), .inl (k : Int)] []) (Nat.zero_le 125) (fun k _ hk => by
    have e1 : mj_w (mj_w (125 * (d : Int)) + (k : Int)) = ((125 * d + k : Nat) : Int) := by unfold mj_w; omega
    rw [l_M_undo_26 hw, if_neg (by omega), hdm, e1, mj_gd_pos ⟨by omega, by omega⟩, mj_gd_pos ⟨by omega, by omega⟩, Int.toNat_natCast, Int.toNat_natCast, wS (by omega)]
    have e2 : mj_u (bkn F d k) 234 k (bkn F d k 235 (125 * d + k)) = bkn F d (k + 1) := by
      funext x q
      unfold mj_u bkn
      by_cases h1 : x = 234 ∧ q = k
      · rw [if_pos h1, if_neg (by omega), if_pos (by omega), h1.2]
      · rw [if_neg h1]
        exact ifc (by omega) rfl rfl
    rw [e2])
  have e0 : bkn F d 0 = F := by
    funext x q
    unfold bkn
    rw [if_neg (by omega)]
  simp only [e0] at h
  refine h.trans ?_
  rw [l_M_undo_26 hw, if_pos (by omega), hdm]
theorem Z_leastOf (hw : wk sw w) {z : Nat} (hz : zn z = true) (F : mj_F) {i : Nat} (hi : i < 6) : mj_call yZ_leastOf w F [.inr (.inl z), .inl (i : Int)] = some (w, F, some (.inl (mj_w (-(mj_shr (gm (z + 1) 6 F 0 i) 1))))) := by
  rw [c_Z_leastOf hw _ z _ hz, show (0 : Int) = ((0 : Nat) : Int) from rfl, Z_cellf hw hz F (by omega) hi, mj_bi_some, c_X_numberOf hw, mj_bi_some]
theorem zs_pn {z : Nat} {f : mj_F} {n n' v : Int} {C : Mt} : mj_u (zs z f n v C) z 1 n' = zs z f n' v C := by
  unfold zs
  rw [sm_u (by omega)]
  congr 1
  funext x q
  unfold mj_u
  by_cases h1 : x = z ∧ q = 1
  · rw [if_pos h1, if_neg (by omega), if_pos h1]
  · rw [if_neg h1, if_neg h1, if_neg h1]
/-- a table with one clock more, that is 0 -/
def ztm (n : Nat) (C : Mt) : Mt := zas (n + 1) n (am 0) (am (mj_w (-0))) (um C n n 1)
theorem Z_becomeTimed (hw : wk sw w) {z y : Nat} (hz : zn z = true) (hy : zn y = true) (hne : z ≠ y) (f : mj_F) (hv : f y 2 = 0 ∨ f y 2 = 1) {n : Nat} (hn : f y 1 = (n : Int)) (h1 : 1 ≤ n) (h5 : n ≤ 5) : mj_call yZ_becomeTimed w f [.inr (.inl z), .inr (.inl y)] = some (w, zs z f ((n + 1 : Nat) : Int) (f y 2) (ztm n (gm (y + 1) 6 f)), none) := by
  rw [c_Z_becomeTimed hw _ z y hz hy, Z_become hw hz hy hne f hv, mj_bu_some, zs_n, hn, if_pos (by omega), wS (by omega), zs_pn, Z_put hw hz f _ _ _ _ (by omega) (by omega), mj_bu_some, Z_assign hw hz f h1 (by omega) (by omega), mj_bu_some]
  rfl
end RR
