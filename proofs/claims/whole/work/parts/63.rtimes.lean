/-! The reference's times of a trace: whens at a moment. -/
def hoI (v rel n : Int) : Int := if ¬ rel = 0 then (if ¬ rel = 1 then (if ¬ rel = 2 then (if ¬ rel = 3 then (if v ≤ n then 0 else 1) else if v < n then 0 else 1) else if ¬ v = n then 0 else 1) else if n < v then 0 else 1) else if n ≤ v then 0 else 1
def hst (f : mj_F) (i at_ : Nat) (q : Int × Mt) : Int × Mt := if f 255 (f 225 i).toNat = (at_ : Int) then ((if hoI (f 256 (f 225 i).toNat) (f 226 i) (f 227 i) = 0 then 1 else q.1), q.2) else (q.1, rmt at_ (f 255 (f 225 i).toNat).toNat (f 226 i) (mj_w (f 227 i - f 256 (f 225 i).toNat)) q.2)
def hom (f : mj_F) (l at_ m : Nat) (q : Int × Mt) : Int × Mt := itr m (fun k q => hst f (6 * l + k) at_ q) q
def hol (f : mj_F) (l at_ : Nat) (q : Int × Mt) : Int × Mt := hom f l at_ (f 224 l).toNat q
theorem hst_01 {f : mj_F} {i at_ : Nat} {q : Int × Mt} (h : q.1 = 0 ∨ q.1 = 1) : (hst f i at_ q).1 = 0 ∨ (hst f i at_ q).1 = 1 := by
  unfold hst
  split
  · show (if hoI _ _ _ = 0 then (1 : Int) else q.1) = 0 ∨ (if hoI _ _ _ = 0 then (1 : Int) else q.1) = 1
    split
    · exact Or.inr rfl
    · exact h
  · exact h
theorem hom_01 {f : mj_F} {l at_ m : Nat} {q : Int × Mt} (h : q.1 = 0 ∨ q.1 = 1) : (hom f l at_ m q).1 = 0 ∨ (hom f l at_ m q).1 = 1 := by
  induction m with
  | zero => exact h
  | succ m ih => exact hst_01 ih
def mkT (f : mj_F) (l : Nat) : Prop := ∃ m : Nat, m ≤ 6 ∧ f 224 l = (m : Int) ∧ ∀ k, k < m → 0 ≤ f 225 (6 * l + k) ∧ f 225 (6 * l + k) < 4
def mkM (f : mj_F) : Prop := ∀ c, c < 4 → 0 ≤ f 255 c ∧ f 255 c < 62
theorem ix6 {l k : Nat} (hl : l < 24) (hk : k ≤ 6) : mj_w (mj_w (6 * (l : Int)) + (k : Int)) = ((6 * l + k : Nat) : Int) := by unfold mj_w; omega
theorem ix6g {l k : Nat} (hl : l < 24) (hk : k < 6) : (0 : Int) ≤ ((6 * l + k : Nat) : Int) ∧ ((6 * l + k : Nat) : Int) < ((144 : Nat) : Int) := ⟨by omega, by omega⟩
theorem ixlt {l j m : Nat} (h : j < m) : ¬ ((6 * l + m : Nat) : Int) ≤ ((6 * l + j : Nat) : Int) := by omega
theorem ixl {l : Nat} (hl : l < 24) : (0 : Int) ≤ (l : Int) ∧ (l : Int) < ((24 : Nat) : Int) := ⟨by omega, by omega⟩
section RT
variable {sw : Bool} {w : mj_W}
theorem M_holds (hw : wk sw w) (F : mj_F) (v rel n : Int) : mj_call yM_holds w F [.inl v, .inl rel, .inl n] = some (w, F, some (.inl (hoI v rel n))) := by
  have t : ∀ {P : Prop} [Decidable P] {a b : Int}, (if P then some (w, F, some ((.inl a : mj_V))) else some (w, F, some (.inl b))) = some (w, F, some (.inl (if P then a else b))) := by
    intro P _ a b
    split <;> rfl
  rw [c_M_holds hw]
  unfold hoI
  rw [t, t, t, t, t, t, t, t, t]
theorem R_holdsAt (hw : wk sw w) (f : mj_F) {l at_ m : Nat} (n : Int) (hl : l < 24) (hat : at_ < 62) (hm6 : m ≤ 6) (hm : f 224 l = (m : Int)) (hc : ∀ k, k < m → 0 ≤ f 225 (6 * l + k) ∧ f 225 (6 * l + k) < 4) (hs : mkM f) (q : Int × Mt) (hv : q.1 = 0 ∨ q.1 = 1) : mj_call yM_holdsAt w (rq f n q.1 q.2) [.inr (.inl 223), .inl (l : Int), .inl (at_ : Int)] = some (w, rq f n (hom f l at_ m q).1 (hom f l at_ m q).2, none) := by
  have e0 : mj_w (6 * (l : Int)) = ((6 * l + 0 : Nat) : Int) := by unfold mj_w; omega
  have em := ix6 hl hm6
  rw [c_M_holdsAt hw, e0]
  have key : ∀ j, j ≤ m → ∃ u, mj_run yM_holdsAt w (rq f n q.1 q.2) 5 [.inr (.inl 223), .inl (l : Int), .inl (at_ : Int), .inl ((6 * l + 0 : Nat) : Int), .inr (.inr (.inr 0))] [] = mj_run yM_holdsAt w (rq f n (hom f l at_ j q).1 (hom f l at_ j q).2) 5 [.inr (.inl 223), .inl (l : Int), .inl (at_ : Int), .inl ((6 * l + j : Nat) : Int), u] [] := by
    intro j
    induction j with
    | zero => exact fun _ => ⟨.inr (.inr (.inr 0)), by rw [show hom f l at_ 0 q = q from rfl]⟩
    | succ j ih =>
      intro hj
      obtain ⟨u, h⟩ := ih (by omega)
      have hcj := hc j (by omega)
      have g := ix6g hl (show j < 6 by omega)
      have es : hom f l at_ (j + 1) q = hst f (6 * l + j) at_ (hom f l at_ j q) := rfl
      have h01 : (hom f l at_ j q).1 = 0 ∨ (hom f l at_ j q).1 = 1 := hom_01 hv
      refine ⟨.inl (f 225 (6 * l + j)), h.trans ((l_M_holdsAt_5 hw _ _ _ _ _).trans ?_)⟩
      rw [es]
      generalize hom f l at_ j q = r at h01 ⊢
      have a224 : ∀ z, rq f n r.1 r.2 224 z = f 224 z := fun z => rq_o (by decide) (by decide)
      have a225 : ∀ z, rq f n r.1 r.2 225 z = f 225 z := fun z => rq_o (by decide) (by decide)
      have a226 : ∀ z, rq f n r.1 r.2 226 z = f 226 z := fun z => rq_o (by decide) (by decide)
      have a227 : ∀ z, rq f n r.1 r.2 227 z = f 227 z := fun z => rq_o (by decide) (by decide)
      have a255 : ∀ z, rq f n r.1 r.2 255 z = f 255 z := fun z => rq_o (by decide) (by decide)
      have a256 : ∀ z, rq f n r.1 r.2 256 z = f 256 z := fun z => rq_o (by decide) (by decide)
      obtain ⟨c, hcc⟩ : ∃ c : Nat, f 225 (6 * l + j) = (c : Int) := ⟨(f 225 (6 * l + j)).toNat, by omega⟩
      have hc4 : c < 4 := by omega
      have g2 : (0 : Int) ≤ (c : Int) ∧ (c : Int) < ((4 : Nat) : Int) := ⟨by omega, by omega⟩
      obtain ⟨s, hss⟩ : ∃ s : Nat, f 255 c = (s : Int) := ⟨(f 255 c).toNat, by have := hs c hc4; omega⟩
      have hs62 : s < 62 := by have := hs c hc4; omega
      have e1 : mj_w (((6 * l + j : Nat) : Int) + 1) = ((6 * l + (j + 1) : Nat) : Int) := wS (by omega)
      rw [mj_gd_pos (ixl hl)]
      simp only [Int.toNat_natCast, a224, hm, em]
      refine (if_neg (ixlt hj)).trans ?_
      simp only [mj_gd_pos g, Int.toNat_natCast, a225, a226, a227, a255, a256, hcc, mj_gd_pos g2, hss, rq_v, e1]
      unfold hst
      rw [hcc, Int.toNat_natCast, hss, Int.toNat_natCast]
      by_cases hq : (s : Int) = (at_ : Int)
      · rw [if_neg (fun z => z hq), if_pos hq, M_holds hw, mj_bi_some, or_0 h01, or_1 h01, mj_gd_pos h01, mj_gd_pos (Or.inr rfl), rq_pv, rq_pv]
        by_cases hz : hoI (f 256 c) (f 226 (6 * l + j)) (f 227 (6 * l + j)) = 0
        · rw [if_neg (fun z => z hz), if_pos hz]
        · rw [if_pos hz, if_neg hz]
      · rw [if_pos hq, if_neg hq, R_meets hw f n r.1 r.2 _ _ hat hs62, mj_bu_some]
  obtain ⟨u, h⟩ := key m (Nat.le_refl m)
  refine h.trans ?_
  rw [l_M_holdsAt_5 hw, mj_gd_pos ⟨by omega, by omega⟩, Int.toNat_natCast, rq_o (by decide) (by decide), hm, em, if_pos (by omega)]
theorem R_hold (hw : wk sw w) (f : mj_F) {l at_ : Nat} (n : Int) (hl : l < 24) (hat : at_ < 62) (ho : mkT f l) (hs : mkM f) (q : Int × Mt) (hv : q.1 = 0 ∨ q.1 = 1) : mj_call yM_holdsAt w (rq f n q.1 q.2) [.inr (.inl 223), .inl (l : Int), .inl (at_ : Int)] = some (w, rq f n (hol f l at_ q).1 (hol f l at_ q).2, none) := by
  obtain ⟨m, h1, h2, h3⟩ := ho
  unfold hol
  rw [h2, Int.toNat_natCast]
  exact R_holdsAt hw f n hl hat h1 h2 h3 hs q hv
/-! what is kept of the sets, sets -/
def svF (f : mj_F) (i k : Nat) : mj_F := fun a q => if a = 257 ∧ 4 * i ≤ q ∧ q < 4 * i + k then f 255 (q - 4 * i) else if a = 258 ∧ 4 * i ≤ q ∧ q < 4 * i + k then f 256 (q - 4 * i) else f a q
def srF (f : mj_F) (e at_ m : Nat) : mj_F := itr m (fun k g => mj_u (mj_u g 255 (f 231 (4 * e + k)).toNat (at_ : Int)) 256 (f 231 (4 * e + k)).toNat (f 232 (4 * e + k))) f
theorem srF_o {f : mj_F} {e at_ m a q : Nat} (h1 : a ≠ 255) (h2 : a ≠ 256) : srF f e at_ m a q = f a q := by
  induction m with
  | zero => rfl
  | succ m ih =>
    have es : srF f e at_ (m + 1) = mj_u (mj_u (srF f e at_ m) 255 (f 231 (4 * e + m)).toNat (at_ : Int)) 256 (f 231 (4 * e + m)).toNat (f 232 (4 * e + m)) := rfl
    rw [es, u_o (Or.inl h2), u_o (Or.inl h1), ih]
theorem srF_ok {f : mj_F} {e at_ m : Nat} (hmo : at_ < 62) (h : mkM f) : mkM (srF f e at_ m) := by
  induction m with
  | zero => exact h
  | succ m ih =>
    intro c hc
    have es : srF f e at_ (m + 1) = mj_u (mj_u (srF f e at_ m) 255 (f 231 (4 * e + m)).toNat (at_ : Int)) 256 (f 231 (4 * e + m)).toNat (f 232 (4 * e + m)) := rfl
    rw [es, u_o (Or.inl (by decide))]
    unfold mj_u
    split
    · omega
    · exact ih c hc
theorem svF_o {f : mj_F} {i k a q : Nat} (h1 : a ≠ 257) (h2 : a ≠ 258) : svF f i k a q = f a q := by
  unfold svF
  rw [if_neg (fun z => h1 z.1), if_neg (fun z => h2 z.1)]
theorem svF_S {f : mj_F} {i k : Nat} : mj_u (mj_u (svF f i k) 257 (4 * i + k) (f 255 k)) 258 (4 * i + k) (f 256 k) = svF f i (k + 1) := by
  funext a q
  unfold mj_u svF
  by_cases h8 : a = 258 ∧ q = 4 * i + k
  · rw [if_pos h8, if_neg (by omega), if_pos (by omega), show q - 4 * i = k by omega]
  · rw [if_neg h8]
    by_cases h7 : a = 257 ∧ q = 4 * i + k
    · rw [if_pos h7, if_pos (by omega), show q - 4 * i = k by omega]
    · rw [if_neg h7]
      by_cases z1 : a = 257 ∧ 4 * i ≤ q ∧ q < 4 * i + k
      · rw [if_pos z1, if_pos (by omega)]
      · rw [if_neg z1]
        by_cases z2 : a = 258 ∧ 4 * i ≤ q ∧ q < 4 * i + k
        · rw [if_pos z2, if_neg (by omega), if_pos (by omega)]
        · rw [if_neg z2, if_neg (by omega), if_neg (by omega)]
end RT
