/-! The reference's times of a trace: what is kept, what is set, one edge. -/
theorem w4 {i k : Nat} (hi : i < 60) (hk : k < 4) : mj_w (mj_w (4 * (i : Int)) + (k : Int)) = ((4 * i + k : Nat) : Int) := by unfold mj_w; omega
theorem w4e {e : Nat} (he : e < 16) : mj_w (4 * (e : Int)) = ((4 * e : Nat) : Int) := by unfold mj_w; omega
theorem w4m {e m : Nat} (he : e < 16) (hm : m ≤ 4) : mj_w (mj_w (4 * (e : Int)) + (m : Int)) = ((4 * e + m : Nat) : Int) := by unfold mj_w; omega
theorem w8 {e : Nat} (he : e < 16) : mj_w (8 + (e : Int)) = ((8 + e : Nat) : Int) := by unfold mj_w; omega
theorem gN {x n : Nat} (h : x < n) : (0 : Int) ≤ (x : Int) ∧ (x : Int) < ((n : Nat) : Int) := ⟨by omega, by omega⟩
theorem nle {x n : Nat} (h : x < n) : ¬ (n : Int) ≤ (x : Int) := by omega
theorem lle {x : Nat} : (x : Int) ≤ (x : Int) := Int.le_refl _
theorem rq_r {F : mj_F} {n v : Int} {A : Mt} {a q : Nat} (h : a ≠ 223 ∧ a ≠ 252) : rq F n v A a q = F a q := rq_o h.1 h.2
def mkE (f : mj_F) (e : Nat) : Prop := ∃ m : Nat, m ≤ 4 ∧ f 230 e = (m : Int) ∧ ∀ k, k < m → 0 ≤ f 231 (4 * e + k) ∧ f 231 (4 * e + k) < 4
section RT
variable {sw : Bool} {w : mj_W}
theorem L94 (hw : wk sw w) (F : mj_F) {r1 nr : Nat} (hr1 : w.1 r1 = (100, nr)) (n v : Int) (A : Mt) (x2 x3 x4 x6 x7 : Int) {i : Nat} (hi : i < 60) : ∀ k, k ≤ 4 → mj_run yM_laysTimes w (rq F n v A) 94 [.inr (.inl 223), .inr (.inl r1), .inl x2, .inl x3, .inl x4, .inl (i : Int), .inl x6, .inl x7, .inl 0] [] = mj_run yM_laysTimes w (rq (svF F i k) n v A) 94 [.inr (.inl 223), .inr (.inl r1), .inl x2, .inl x3, .inl x4, .inl (i : Int), .inl x6, .inl x7, .inl (k : Int)] [] := by
  intro k
  induction k with
  | zero =>
    intro _
    have e0 : svF F i 0 = F := by
      funext a q
      unfold svF
      rw [if_neg (by omega), if_neg (by omega)]
    rw [e0]
    rfl
  | succ k ih =>
    intro hk
    refine (ih (by omega)).trans ((l_M_laysTimes_94 hw _ r1 nr _ _ _ _ _ _ _ hr1).trans ?_)
    have k4 : k < 4 := hk
    have g1 := gN k4
    have g2 : (0 : Int) ≤ ((4 * i + k : Nat) : Int) ∧ ((4 * i + k : Nat) : Int) < ((240 : Nat) : Int) := gN (by omega)
    have hn4 : ¬ (4 : Int) ≤ (k : Int) := nle (n := 4) k4
    refine (if_neg hn4).trans ?_
    rw [w4 hi k4]
    simp only [mj_gd_pos g1, mj_gd_pos g2, Int.toNat_natCast]
    rw [wS (by omega), u_o (Or.inl (by decide)), rq_r ⟨by decide, by decide⟩, rq_r ⟨by decide, by decide⟩, rq_u (by decide) (by decide), rq_u (by decide) (by decide), svF_o (by decide) (by decide), svF_o (by decide) (by decide), svF_S]
theorem L169 (hw : wk sw w) (F : mj_F) {r1 nr : Nat} (hr1 : w.1 r1 = (100, nr)) (n v : Int) (A : Mt) (x2 x3 x4 x5 : Int) {e at_ m : Nat} (he : e < 16) (hm4 : m ≤ 4) (hm : F 230 e = (m : Int)) (hc : ∀ k, k < m → 0 ≤ F 231 (4 * e + k) ∧ F 231 (4 * e + k) < 4) : ∀ k, k ≤ m → mj_run yM_laysTimes w (rq F n v A) 169 [.inr (.inl 223), .inr (.inl r1), .inl x2, .inl x3, .inl x4, .inl x5, .inl (e : Int), .inl (at_ : Int), .inl ((4 * e : Nat) : Int)] [] = mj_run yM_laysTimes w (rq (srF F e at_ k) n v A) 169 [.inr (.inl 223), .inr (.inl r1), .inl x2, .inl x3, .inl x4, .inl x5, .inl (e : Int), .inl (at_ : Int), .inl ((4 * e + k : Nat) : Int)] [] := by
  intro k
  induction k with
  | zero =>
    intro _
    rw [show srF F e at_ 0 = F from rfl]
    rfl
  | succ k ih =>
    intro hk
    refine (ih (by omega)).trans ((l_M_laysTimes_169 hw _ r1 nr _ _ _ _ _ _ _ hr1).trans ?_)
    have k4 : k < m := hk
    have hck := hc k k4
    have a230 : ∀ z, rq (srF F e at_ k) n v A 230 z = F 230 z := fun z => (rq_r ⟨by decide, by decide⟩).trans (srF_o (by decide) (by decide))
    have a231 : ∀ z, rq (srF F e at_ k) n v A 231 z = F 231 z := fun z => (rq_r ⟨by decide, by decide⟩).trans (srF_o (by decide) (by decide))
    have u231 : ∀ x y z, mj_u (rq (srF F e at_ k) n v A) 255 x y 231 z = F 231 z := fun x y z => (u_o (Or.inl (by decide))).trans (a231 z)
    have u232 : ∀ x y z, mj_u (rq (srF F e at_ k) n v A) 255 x y 232 z = F 232 z := fun x y z => (u_o (Or.inl (by decide))).trans ((rq_r ⟨by decide, by decide⟩).trans (srF_o (by decide) (by decide)))
    have g0 := gN he
    have g1 : (0 : Int) ≤ ((4 * e + k : Nat) : Int) ∧ ((4 * e + k : Nat) : Int) < ((64 : Nat) : Int) := gN (by omega)
    have g2 : (0 : Int) ≤ F 231 (4 * e + k) ∧ F 231 (4 * e + k) < ((4 : Nat) : Int) := ⟨hck.1, hck.2⟩
    have hlt : ¬ ((4 * e + m : Nat) : Int) ≤ ((4 * e + k : Nat) : Int) := nle (by omega)
    simp only [mj_gd_pos g0, Int.toNat_natCast, a230, hm, w4m he hm4]
    refine (if_neg hlt).trans ?_
    simp only [mj_gd_pos g1, Int.toNat_natCast, a231, u231, u232, mj_gd_pos g2]
    have es : srF F e at_ (k + 1) = mj_u (mj_u (srF F e at_ k) 255 (F 231 (4 * e + k)).toNat (at_ : Int)) 256 (F 231 (4 * e + k)).toNat (F 232 (4 * e + k)) := rfl
    rw [es, rq_u (by decide) (by decide), rq_u (by decide) (by decide), wS (by omega)]
    rfl
theorem hol_e {f g : mj_F} {l at_ : Nat} {q : Int × Mt} (h4 : ∀ z, g 224 z = f 224 z) (h5 : ∀ z, g 225 z = f 225 z) (h6 : ∀ z, g 226 z = f 226 z) (h7 : ∀ z, g 227 z = f 227 z) (hs : ∀ z, g 255 z = f 255 z) (hb : ∀ z, g 256 z = f 256 z) : hol g l at_ q = hol f l at_ q := by
  unfold hol hom hst
  rw [h4]
  simp only [h5, h6, h7, hs, hb]
theorem mkT_e {f g : mj_F} {l : Nat} (h4 : ∀ z, g 224 z = f 224 z) (h5 : ∀ z, g 225 z = f 225 z) (h : mkT f l) : mkT g l := by
  obtain ⟨m, a, b, c⟩ := h
  exact ⟨m, a, (h4 l).trans b, fun k hk => by rw [h5]; exact c k hk⟩
end RT
