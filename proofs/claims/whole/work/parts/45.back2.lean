/-! A step backwards, in both. -/
def rbm (f : mj_F) (e m : Nat) (A : Mt) : Mt := itr m (fun k A => rmt ((f 231 (4 * e + k)).toNat + 1) 0 2 (f 232 (4 * e + k)) A) A
def rbf (f : mj_F) (n e m : Nat) (A : Mt) : Mt := itr m (fun k A => um (rfr n ((f 231 (4 * e + k)).toNat + 1) A) 0 ((f 231 (4 * e + k)).toNat + 1) 1) A
def rb1 (f : mj_F) (n e l : Nat) (q : Int × Mt) : Int × Mt := rcl n ((rwc f n l q).1, rbm f e (f 230 e).toNat (rwc f n l q).2)
/-- BACK in the reference -/
def rbk (f : mj_F) (n e l : Nat) (q : Int × Mt) : Int × Mt := rwc f n (8 + e) ((rb1 f n e l q).1, rbf f n e (f 230 e).toNat (rb1 f n e l q).2)
/-- BACK in the class -/
def zb1 (f : mj_F) (p n e m : Nat) (q : Int × Mt) : Int × Mt := itr m (fun k q =>
  zt n 0 ((f (p + 11) (4 * e + k)).toNat + 1) (loB 2 (f (p + 12) (4 * e + k))) (zt n ((f (p + 11) (4 * e + k)).toNat + 1) 0 (upB 2 (f (p + 12) (4 * e + k))) q.1 q.2).1 (zt n ((f (p + 11) (4 * e + k)).toNat + 1) 0 (upB 2 (f (p + 12) (4 * e + k))) q.1 q.2).2) q
def zbf (f : mj_F) (p n e m : Nat) (C : Mt) : Mt := itr m (fun k C => zfr n ((f (p + 11) (4 * e + k)).toNat + 1) C) C
def zbk (f : mj_F) (p n e l : Nat) (q : Int × Mt) : Int × Mt := zkl f p n (8 + e) ((zb1 f p n e (f (p + 10) e).toNat (zkl f p n l q)).1, zbf f p n e (f (p + 10) e).toNat (zb1 f p n e (f (p + 10) e).toNat (zkl f p n l q)).2)
section RR
variable {sw : Bool} {w : mj_W}
theorem R_backs (hw : wk sw w) (f : mj_F) {n e l : Nat} (hn : n ≤ 61) (he : e < 16) (hl : l < 8) (hto : f 229 e = (l : Int)) (ho : mkr f l) (hoe : mkr f (8 + e)) (hos : mks f e) (q : Int × Mt) (hv : q.1 = 0 ∨ q.1 = 1) : mj_call yM_backs w (rq f n q.1 q.2) [.inr (.inl 223), .inl (e : Int)] = some (w, rq f n (rbk f n e l q).1 (rbk f n e l q).2, none) := by
  obtain ⟨m, g1, g2, g3⟩ := hos
  have e8 : mj_w (8 + (e : Int)) = ((8 + e : Nat) : Int) := by unfold mj_w; omega
  have e0 : mj_w (4 * (e : Int)) = ((4 * e + 0 : Nat) : Int) := by unfold mj_w; omega
  have e1 : mj_w (((4 * e + 0 : Nat) : Int) + (m : Int)) = ((4 * e + m : Nat) : Int) := by unfold mj_w; omega
  rw [c_M_backs hw, mj_gd_pos ⟨by omega, by omega⟩, Int.toNat_natCast, rq_o (by decide) (by decide), hto, R_when hw f hn (by omega) ho q hv, mj_bu_some, e0]
  unfold rbk rb1
  rw [g1, Int.toNat_natCast]
  generalize hq2 : rwc f n l q = q2
  have hv2 : q2.1 = 0 ∨ q2.1 = 1 := by rw [← hq2]; exact rwc_01 f n _ q hv
  have h := loop_eq (fun k A => mj_run yM_backs w (rq f n q2.1 A) 14 [.inr (.inl 223), .inl (e : Int), .inl ((4 * e + k : Nat) : Int)] []) (fun k A => rmt ((f 231 (4 * e + k)).toNat + 1) 0 2 (f 232 (4 * e + k)) A) m (fun k A hk => by
    have hck := g3 k hk
    have e2 : mj_w (f 231 (4 * e + k) + 1) = (((f 231 (4 * e + k)).toNat + 1 : Nat) : Int) := by unfold mj_w; omega
    have g : (0 : Int) ≤ ((4 * e + k : Nat) : Int) ∧ ((4 * e + k : Nat) : Int) < ((64 : Nat) : Int) := ⟨by omega, by omega⟩
    rw [l_M_backs_14 hw, mj_gd_pos ⟨by omega, by omega⟩, Int.toNat_natCast, rq_o (by decide) (by decide), g1, e0, e1, if_neg (by omega), mj_gd_pos g, mj_gd_pos g, Int.toNat_natCast, rq_o (by decide) (by decide), rq_o (by decide) (by decide), e2]
    have t := R_meets hw f n q2.1 A (i := (f 231 (4 * e + k)).toNat + 1) (j := 0) 2 (f 232 (4 * e + k)) (by omega) (by omega)
    refine (congrArg (fun r => mj_bu r _) t).trans ?_
    rw [mj_bu_some, wS (by omega)]
    rfl) q2.2
  refine h.trans ?_
  rw [l_M_backs_14 hw, mj_gd_pos ⟨by omega, by omega⟩, Int.toNat_natCast, rq_o (by decide) (by decide), g1, e0, e1, if_pos (by omega)]
  have t := R_closes hw f hn (q2.1, rbm f e m q2.2) hv2
  refine (congrArg (fun r => mj_bu r _) t).trans ?_
  rw [mj_bu_some]
  have hv3 := rcl_01 n (q2.1, rbm f e m q2.2) hv2
  generalize rcl n (q2.1, rbm f e m q2.2) = q3 at hv3
  have h := loop_eq (fun k A => mj_run yM_backs w (rq f n q3.1 A) 62 [.inr (.inl 223), .inl (e : Int), .inl ((4 * e + k : Nat) : Int)] []) (fun k A => um (rfr n ((f 231 (4 * e + k)).toNat + 1) A) 0 ((f 231 (4 * e + k)).toNat + 1) 1) m (fun k A hk => by
    have hck := g3 k hk
    have e2 : mj_w (f 231 (4 * e + k) + 1) = (((f 231 (4 * e + k)).toNat + 1 : Nat) : Int) := by unfold mj_w; omega
    have g : (0 : Int) ≤ ((4 * e + k : Nat) : Int) ∧ ((4 * e + k : Nat) : Int) < ((64 : Nat) : Int) := ⟨by omega, by omega⟩
    rw [l_M_backs_62 hw, mj_gd_pos ⟨by omega, by omega⟩, Int.toNat_natCast, rq_o (by decide) (by decide), g1, e0, e1, if_neg (by omega), mj_gd_pos g, Int.toNat_natCast, rq_o (by decide) (by decide), e2, R_frees hw f (by omega) (by omega) hn, mj_bu_some, wS (by omega)]
    rfl) q3.2
  refine h.trans ?_
  rw [l_M_backs_62 hw, mj_gd_pos ⟨by omega, by omega⟩, Int.toNat_natCast, rq_o (by decide) (by decide), g1, e0, e1, if_pos (by omega), e8]
  have t := R_when hw f hn (by omega : 8 + e < 24) hoe (q3.1, rbf f n e m q3.2) hv3
  exact (congrArg (fun r => mj_bu r _) t).trans (mj_bu_some ..)
theorem Z_stepBackBy (hw : wk sw w) {z : Nat} (hz : zn z = true) {p : Nat} (hp : pn p) (f : mj_F) {n e l : Nat} (hn : n ≤ 6) (he : e < 16) (hl : l < 8) (hto : f (p + 9) e = (l : Int)) (ho : okr f p l) (hoe : okr f p (8 + e)) (hos : oks f p e) (q : Int × Mt) : mj_call yZ_stepBackBy w (zs z f n q.1 q.2) [.inr (.inl z), .inr (.inl p), .inl (e : Int)] = some (w, zs z f n (zbk f p n e l q).1 (zbk f p n e l q).2, none) := by
  obtain ⟨m, g1, g2, g3⟩ := hos
  rw [c_Z_stepBackBy hw _ z p _ hz hp, mj_gd_pos ⟨by omega, by omega⟩, Int.toNat_natCast, zs_p hz hp (by omega), hto, X_stayRules hw, mj_bi_some, Z_keep hw hz hp f hn (by omega) ho q, mj_bu_some]
  unfold zbk
  rw [g1, Int.toNat_natCast]
  generalize zkl f p n l q = q2
  obtain ⟨u, h⟩ := loop_ex (fun k (q : Int × Mt) (u : mj_V) => mj_run yZ_stepBackBy w (zs z f n q.1 q.2) 16 [.inr (.inl z), .inr (.inl p), .inl (e : Int), .inl (k : Int), u] []) (fun k q => zt n 0 ((f (p + 11) (4 * e + k)).toNat + 1) (loB 2 (f (p + 12) (4 * e + k))) (zt n ((f (p + 11) (4 * e + k)).toNat + 1) 0 (upB 2 (f (p + 12) (4 * e + k))) q.1 q.2).1 (zt n ((f (p + 11) (4 * e + k)).toNat + 1) 0 (upB 2 (f (p + 12) (4 * e + k))) q.1 q.2).2) m (fun k q u hk => by
    have e1 : mj_w (mj_w ((e : Int) * 4) + (k : Int)) = ((4 * e + k : Nat) : Int) := by unfold mj_w; omega
    have hck := g3 k hk
    have e2 : mj_w (f (p + 11) (4 * e + k) + 1) = (((f (p + 11) (4 * e + k)).toNat + 1 : Nat) : Int) := by unfold mj_w; omega
    have hlt : (f (p + 11) (4 * e + k)).toNat + 1 < 6 := by omega
    have g : (0 : Int) ≤ ((4 * e + k : Nat) : Int) ∧ ((4 * e + k : Nat) : Int) < ((64 : Nat) : Int) := ⟨by omega, by omega⟩
    rw [l_Z_stepBackBy_16 hw _ z p _ _ _ hz hp, mj_gd_pos ⟨by omega, by omega⟩, Int.toNat_natCast, zs_p hz hp (by omega), g1, if_neg (by omega), e1]
    simp only [mj_gd_pos g, Int.toNat_natCast]
    rw [zs_p hz hp (by omega), zs_p hz hp (by omega), e2]
    have t := Z_relate hw hz f hn q.1 q.2 (i := (f (p + 11) (4 * e + k)).toNat + 1) (j := 0) 2 (f (p + 12) (4 * e + k)) hlt (by omega)
    refine ⟨.inl ((4 * e + k : Nat) : Int), (congrArg (fun r => mj_bu r _) t).trans ?_⟩
    rw [mj_bu_some, wS (by omega)]) q2 (.inr (.inr (.inr 0)))
  refine h.trans ?_
  rw [l_Z_stepBackBy_16 hw _ z p _ _ _ hz hp, mj_gd_pos ⟨by omega, by omega⟩, Int.toNat_natCast, zs_p hz hp (by omega), g1, if_pos (by omega)]
  change mj_run yZ_stepBackBy w (zs z f n (zb1 f p n e m q2).1 (zb1 f p n e m q2).2) 63 _ [] = _
  generalize zb1 f p n e m q2 = q3
  have h := loop_eq (fun k (C : Mt) => mj_run yZ_stepBackBy w (zs z f n q3.1 C) 63 [.inr (.inl z), .inr (.inl p), .inl (e : Int), .inl (k : Int), u] []) (fun k C => zfr n ((f (p + 11) (4 * e + k)).toNat + 1) C) m (fun k C hk => by
    have e1 : mj_w (mj_w ((e : Int) * 4) + (k : Int)) = ((4 * e + k : Nat) : Int) := by unfold mj_w; omega
    have hck := g3 k hk
    have e2 : mj_w (f (p + 11) (4 * e + k) + 1) = (((f (p + 11) (4 * e + k)).toNat + 1 : Nat) : Int) := by unfold mj_w; omega
    have hlt : (f (p + 11) (4 * e + k)).toNat + 1 < 6 := by omega
    have g : (0 : Int) ≤ ((4 * e + k : Nat) : Int) ∧ ((4 * e + k : Nat) : Int) < ((64 : Nat) : Int) := ⟨by omega, by omega⟩
    rw [l_Z_stepBackBy_63 hw _ z p _ _ _ hz hp, mj_gd_pos ⟨by omega, by omega⟩, Int.toNat_natCast, zs_p hz hp (by omega), g1, if_neg (by omega), e1, mj_gd_pos g, Int.toNat_natCast, zs_p hz hp (by omega), e2, Z_release hw hz f (by omega) hlt hn, mj_bu_some, wS (by omega)]) q3.2
  refine h.trans ?_
  rw [l_Z_stepBackBy_63 hw _ z p _ _ _ hz hp, mj_gd_pos ⟨by omega, by omega⟩, Int.toNat_natCast, zs_p hz hp (by omega), g1, if_pos (by omega), X_edgeRules hw _ he, mj_bi_some]
  have t := Z_keep hw hz hp f hn (by omega : 8 + e < 24) hoe (q3.1, zbf f p n e m q3.2)
  exact (congrArg (fun r => mj_bu r _) t).trans (mj_bu_some ..)
end RR
