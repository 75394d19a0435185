/-! The nodes, one edge at a time, in both: two memories. -/
theorem stOK_of {f : mj_F} {p n st : Nat} (hn : 0 < n) (h5 : n ≤ 5) (os : sL f p n st) (h : (zkl f p n st (0, fun _ _ => 1)).1 = 0) : stOK f st := by
  obtain ⟨K, s, β, _, _, _, ws, _, hp⟩ := WI_0 (ed := fun _ => 0) hn (by omega) (sL_lN1 h5 (Nat.le_refl n) os)
  rcases ws with ⟨h1, _⟩ | ⟨_, _, T, gr, _⟩
  · rw [h] at h1
    exact absurd h1 (by decide)
  · exact (PR_0 gr.1).1 ((hp T gr.1).1 gr.2.1)
/-- a table made rough -/
def rgC (H : mj_F) (p n : Nat) (q : Int × Mt) : Int × Mt := if q.1 = 0 then zcl n q.1 (zrg H p n n 0 q.2) else q
def rgR (H : mj_F) (n : Nat) (q : Int × Mt) : Int × Mt := if q.1 = 0 then rcl n (q.1, rrg H n n 0 q.2) else q
theorem gro_RA {sw : Bool} {g : mj_F} {c np ne st : Nat} (hg : RA sw g c np ne st) : ∀ i, i < c + 1 → gro g (pl sw) i = g 233 i ∧ 0 ≤ g 233 i ∧ g 233 i ≤ 50 := by
  intro i hi
  unfold gro
  by_cases hi0 : i = 0
  · subst hi0
    rw [if_pos rfl, hg.2.2.2.2.1]
    exact ⟨rfl, by decide, by decide⟩
  · rw [if_neg hi0]
    have := hg.2.2.2.2.2 (i - 1) (by omega)
    rw [show i - 1 + 1 = i by omega] at this
    exact this
theorem TS_rg {sw : Bool} {H : mj_F} {c np ne st : Nat} (ra : RA sw H c np ne st) {M : Int} (hM : M ≤ 1000000) {q r : Int × Mt} (h : TS (c + 1) M q r) : TS (c + 1) 802 (rgC H (pl sw) (c + 1) q) (rgR H (c + 1) r) := by
  have hc4 := ra.1.1
  have h01 := TS_01 h
  unfold rgC rgR
  have hb := bm5 (M := 102) (by decide) (show c + 1 ≤ 5 by omega)
  rcases h01.1 with h0 | h1
  · have h0' : r.1 = 0 := h01.2.2.symm.trans h0
    rw [if_pos h0, if_pos h0', h0, h0']
    refine TS_le (show bm 102 (c + 1) ≤ 802 by omega) (TS_rough (gro_RA ra) ra.2.2.2.2.1 hM (by omega) ?_)
    rw [show q = (0, q.2) from Prod.ext h0 rfl, show r = (0, r.2) from Prod.ext h0' rfl] at h
    exact h
  · have h1' : r.1 = 1 := h01.2.2.symm.trans h1
    rw [if_neg (by omega), if_neg (by omega)]
    exact Or.inl ⟨h1, h1'⟩
/-! What a plan's rows alone decide. -/
section PC
variable {H g : mj_F}
theorem rwc_c (h : ∀ a, 224 ≤ a → a ≤ 233 → g a = H a) (n l : Nat) (q : Int × Mt) : rwc g n l q = rwc H n l q := by
  unfold rwc rwh
  rw [h 224 (by omega) (by omega), h 225 (by omega) (by omega), h 226 (by omega) (by omega), h 227 (by omega) (by omega)]
theorem rwt_c (h : ∀ a, 224 ≤ a → a ≤ 233 → g a = H a) (n l : Nat) (q : Int × Mt) : rwt g n l q = rwt H n l q := by
  unfold rwt
  rw [rwc_c h, rwc_c h]
theorem rsp_c (h : ∀ a, 224 ≤ a → a ≤ 233 → g a = H a) (n e l : Nat) (q : Int × Mt) : rsp g n e l q = rsp H n e l q := by
  unfold rsp rap
  rw [rwt_c h, rwc_c h, h 230 (by omega) (by omega), h 231 (by omega) (by omega), h 232 (by omega) (by omega)]
theorem rrg_c (h : ∀ a, 224 ≤ a → a ≤ 233 → g a = H a) (n k l : Nat) (A : Mt) : rrg g n k l A = rrg H n k l A := by
  unfold rrg
  rw [h 233 (by omega) (by omega)]
theorem okr_c {p l : Nat} (h : ∀ k, k ≤ 12 → g (p + k) = H (p + k)) (o : okr H p l) : okr g p l := by
  unfold okr at o ⊢
  rw [h 4 (by omega), h 5 (by omega)]
  exact o
theorem oks_c {p e : Nat} (h : ∀ k, k ≤ 12 → g (p + k) = H (p + k)) (o : oks H p e) : oks g p e := by
  unfold oks at o ⊢
  rw [h 10 (by omega), h 11 (by omega)]
  exact o
theorem mkr_c {l : Nat} (h : ∀ a, 224 ≤ a → a ≤ 233 → g a = H a) (o : mkr H l) : mkr g l := by
  unfold mkr at o ⊢
  rw [h 224 (by omega) (by omega), h 225 (by omega) (by omega)]
  exact o
theorem mks_c {e : Nat} (h : ∀ a, 224 ≤ a → a ≤ 233 → g a = H a) (o : mks H e) : mks g e := by
  unfold mks at o ⊢
  rw [h 230 (by omega) (by omega), h 231 (by omega) (by omega)]
  exact o
end PC
/-- both memories hold the plan of H -/
def PH (sw : Bool) (H f g : mj_F) : Prop := (∀ k, k ≤ 12 → f (pl sw + k) = H (pl sw + k)) ∧ (∀ a, 224 ≤ a → a ≤ 233 → g a = H a) ∧ ∀ q, 1 ≤ q → q ≤ 5 → g 223 q = H 223 q
/-- what the nodes' making may change -/
def CB (f f' : mj_F) : Prop := ∀ a q, ¬ (37 ≤ a ∧ a ≤ 167) → f' a q = f a q
def MB (g g' : mj_F) : Prop := ∀ a q, ¬ (a = 223 ∧ (q = 23 ∨ q = 52 ∨ q = 53)) → ¬ (236 ≤ a ∧ a ≤ 239) → a ≠ 252 → g' a q = g a q
theorem CB_t {f f' f'' : mj_F} (a : CB f f') (b : CB f' f'') : CB f f'' := fun x q h => (b x q h).trans (a x q h)
theorem MB_t {f f' f'' : mj_F} (a : MB f f') (b : MB f' f'') : MB f f'' := fun x q h1 h2 h3 => (b x q h1 h2 h3).trans (a x q h1 h2 h3)
theorem CB_z {z : Nat} {f : mj_F} {n v : Int} {C : Mt} (h : 37 ≤ z ∧ z ≤ 166) : CB f (zs z f n v C) := fun a q ha => zs_o (by omega) (by omega)
theorem MB_q {f : mj_F} {n v : Int} {A : Mt} : MB f (rq f n v A) := fun a q h1 h2 h3 => by
  by_cases z : a = 223
  · subst z; exact rq_f (by omega) (by omega)
  · exact rq_o z h3
theorem PH_f {sw : Bool} {H f g f' g' : mj_F} (h : PH sw H f g) (a : CB f f') (b : MB g g') : PH sw H f' g' := by
  have hp := pl_o sw
  refine ⟨fun k hk => ?_, fun x h1 h2 => ?_, fun q h1 h2 => ?_⟩
  · rw [← h.1 k hk]
    funext q
    exact a _ q (by omega)
  · rw [← h.2.1 x h1 h2]
    funext q
    exact b _ q (by omega) (by omega) (by omega)
  · rw [← h.2.2 q h1 h2]
    exact b _ q (by omega) (by omega) (by omega)
/-- a node, in both -/
def BN (H f g : mj_F) (c np ne st k : Nat) : Prop :=
  (∃ a : Nat, a < np ∧ f 39 k = (a : Int) ∧ g 236 k = (a : Int)) ∧ f 40 k = g 237 k ∧ f 41 k = g 238 k ∧
  (k = 0 → g 237 0 = -2 ∧ g 238 0 = -2 ∧ f 42 0 = 0 ∧ g 236 0 = (st : Int) ∧ stOK H st) ∧
  (0 < k → ∃ j e d : Nat, j < k ∧ e < ne ∧ g 237 k = (j : Int) ∧ g 238 k = (e : Int) ∧ f 42 j = (d : Int) ∧ f 42 k = ((d + 1 : Nat) : Int) ∧ d < k ∧ H 228 e = g 236 j ∧ H 229 e = g 236 k) ∧
  f (48 + 2 * k) 1 = ((c + 1 : Nat) : Int) ∧ TS (c + 1) 802 (f (48 + 2 * k) 2, gm (49 + 2 * k) 6 f) (0, tsq g 239 k) ∧ f 43 k = -1
def BK (H f g : mj_F) (c np ne st N : Nat) : Prop :=
  N ≤ 60 ∧ f 37 9 = (N : Int) ∧ g 223 23 = (N : Int) ∧ (∀ k, k < N → BN H f g c np ne st k) ∧
  ∀ a : Nat, a < np → (f 44 a = -2 ∧ ∀ k, k < N → g 236 k ≠ (a : Int)) ∨ ∃ k : Nat, k < N ∧ f 44 a = (k : Int) ∧ g 236 k = (a : Int) ∧ ∀ j, j < k → g 236 j ≠ (a : Int)
/-- the same, where work alone is another -/
theorem BK_c {H f g f' g' : mj_F} {c np ne st N : Nat} (ef : ∀ a, 37 ≤ a → a ≤ 167 → a ≠ 46 → a ≠ 47 → f' a = f a) (e23 : g' 223 23 = g 223 23) (eg : ∀ a, 236 ≤ a → a ≤ 239 → g' a = g a) (b : BK H f g c np ne st N) : BK H f' g' c np ne st N := by
  obtain ⟨b1, b2, b3, b4, b5⟩ := b
  refine ⟨b1, ?_, e23.trans b3, fun k hk => ?_, ?_⟩
  · rw [ef 37 (by decide) (by decide) (by decide) (by decide)]; exact b2
  · have t := b4 k hk
    unfold BN at t ⊢
    rw [ef 39 (by decide) (by decide) (by decide) (by decide), ef 40 (by decide) (by decide) (by decide) (by decide), ef 41 (by decide) (by decide) (by decide) (by decide), ef 42 (by decide) (by decide) (by decide) (by decide), ef 43 (by decide) (by decide) (by decide) (by decide), ef (48 + 2 * k) (by omega) (by omega) (by omega) (by omega), gm_c (ef (49 + 2 * k) (by omega) (by omega) (by omega) (by omega)), eg 236 (by decide) (by decide), eg 237 (by decide) (by decide), eg 238 (by decide) (by decide), tsq_c (eg 239 (by decide) (by decide))]
    exact t
  · rw [ef 44 (by decide) (by decide) (by decide) (by decide), eg 236 (by decide) (by decide)]
    exact b5
theorem BK_g {H f g : mj_F} {c np ne st N : Nat} {n' v' : Int} {A : Mt} (b : BK H f g c np ne st N) : BK H f (rq g n' v' A) c np ne st N := BK_c (fun _ _ _ _ _ => rfl) (rq_f (by decide) (by decide)) (fun a h1 h2 => funext fun q => rq_o (by omega) (by omega)) b
theorem BK_w {H f g : mj_F} {c np ne st N : Nat} {n v n' v' : Int} {C A : Mt} (b : BK H f g c np ne st N) : BK H (zs 46 f n v C) (rq g n' v' A) c np ne st N := BK_c (fun a _ _ h1 h2 => funext fun q => zs_o h1 h2) (rq_f (by decide) (by decide)) (fun a h1 h2 => funext fun q => rq_o (by omega) (by omega)) b
theorem ix5N {N i j : Nat} (hN : N < 60) (hi : i < 5) (hj : j < 5) : mj_w (mj_w (mj_w (25 * (N : Int)) + mj_w (5 * (i : Int))) + (j : Int)) = ((25 * N + 5 * i + j : Nat) : Int) := by unfold mj_w; omega
/-- a node's table stored -/
def stn (f : mj_F) (t n k l : Nat) (A : Mt) : mj_F := fun x q => if x = 239 ∧ 25 * t ≤ q ∧ q < 25 * t + 25 ∧ ((q - 25 * t) / 5 < k ∧ (q - 25 * t) % 5 < n ∨ (q - 25 * t) / 5 = k ∧ (q - 25 * t) % 5 < l) then A ((q - 25 * t) / 5) ((q - 25 * t) % 5) else f x q
theorem stn_in {f : mj_F} {t n : Nat} {A : Mt} {i j : Nat} (hn : n ≤ 5) (hi : i < n) (hj : j < n) : stn f t n n 0 A 239 (25 * t + 5 * i + j) = A i j := by
  have e1 : (25 * t + 5 * i + j - 25 * t) / 5 = i := by omega
  have e2 : (25 * t + 5 * i + j - 25 * t) % 5 = j := by omega
  unfold stn
  rw [e1, e2, if_pos ⟨rfl, by omega, by omega, Or.inl ⟨hi, hj⟩⟩]
theorem stn_o {f : mj_F} {t n k l : Nat} {A : Mt} {x q : Nat} (h : x ≠ 239 ∨ ¬ (25 * t ≤ q ∧ q < 25 * t + 25)) : stn f t n k l A x q = f x q := by
  unfold stn
  rw [if_neg (by omega)]
/-- a node added, in the reference -/
def adF (g : mj_F) (N n : Nat) (x1 x2 x3 : Int) (A : Mt) : mj_F := mj_u (stn (mj_u (mj_u (mj_u g 236 N x1) 237 N x2) 238 N x3) N n n 0 A) 223 23 ((N + 1 : Nat) : Int)
/-- a node added, in the class -/
def apF (F : mj_F) (N a : Nat) (x2 x3 x4 : Int) : mj_F := mj_u (mj_u (mj_u (mj_u (mj_u (mj_u (mj_u (zs (48 + 2 * N) F (F 46 1) (F 46 2) (gm 47 6 F)) 39 N (a : Int)) 40 N x2) 41 N x3) 42 N x4) 43 N (-1)) 44 a (if 0 ≤ F 44 a then F 44 a else (N : Int))) 37 9 ((N + 1 : Nat) : Int)
theorem mu_id {f : mj_F} {a k : Nat} : mj_u f a k (f a k) = f := by
  funext b q
  unfold mj_u
  split
  · next h => rw [h.1, h.2]
  · rfl
section GR
variable {sw sw' : Bool} {w w' : mj_W}
theorem R_adds (hw : wk sw w) (g : mj_F) {n N : Nat} (hn : n ≤ 5) (hN : g 223 23 = (N : Int)) (hN60 : N < 60) (v : Int) (A : Mt) (x1 x2 x3 : Int) : mj_call yM_adds w (rq g n v A) [.inr (.inl 223), .inl x1, .inl x2, .inl x3] = some (w, rq (adF g N n x1 x2 x3 A) n v A, none) := by
  have h23 : rq g n v A 223 23 = (N : Int) := by rw [rq_f (by decide) (by decide)]; exact hN
  rw [c_M_adds hw, h23, Int.toNat_natCast, mj_gd_pos (by omega)]
  have r1 : mj_u (rq g n v A) 236 N x1 223 23 = (N : Int) := by rw [u_o (by omega)]; exact h23
  rw [r1, Int.toNat_natCast, mj_gd_pos (by omega)]
  have r2 : mj_u (mj_u (rq g n v A) 236 N x1) 237 N x2 223 23 = (N : Int) := by rw [u_o (by omega)]; exact r1
  rw [r2, Int.toNat_natCast, mj_gd_pos (by omega), rq_u (by decide) (by decide), rq_u (by decide) (by decide), rq_u (by decide) (by decide)]
  have hG : ∀ k l, stn (mj_u (mj_u (mj_u g 236 N x1) 237 N x2) 238 N x3) N n k l A 223 23 = (N : Int) := fun k l => by
    rw [stn_o (by omega), u_o (by omega), u_o (by omega), u_o (by omega)]; exact hN
  unfold adF
  revert hG
  generalize mj_u (mj_u (mj_u g 236 N x1) 237 N x2) 238 N x3 = f
  intro hG
  obtain ⟨u, h⟩ := loop_ex (fun k (_ : Unit) (u : mj_V) => mj_run yM_adds w (rq (stn f N n k 0 A) n v A) 33 [.inr (.inl 223), .inl x1, .inl x2, .inl x3, .inl (k : Int), u] []) (fun _ a => a) n (fun k _ u hk => by
    rw [l_M_adds_33 hw, rq_n, if_neg (by omega)]
    have h := loop_st (fun l => mj_run yM_adds w (rq (stn f N n k l A) n v A) 45 [.inr (.inl 223), .inl x1, .inl x2, .inl x3, .inl (k : Int), .inl (l : Int)] []) (Nat.zero_le n) (fun l _ hl => by
      have h9 : rq (stn f N n k l A) n v A 223 23 = (N : Int) := by rw [rq_f (by decide) (by decide)]; exact hG k l
      rw [l_M_adds_45 hw, rq_n, if_neg (by omega), R_get hw _ _ v _ (by omega) (by omega), mj_bi_some, h9, ix5N hN60 (by omega) (by omega), mj_gd_pos ⟨by omega, by omega⟩, Int.toNat_natCast, wS (by omega), rq_u (by decide) (by decide)]
      have e2 : mj_u (stn f N n k l A) 239 (25 * N + 5 * k + l) (A k l) = stn f N n k (l + 1) A := by
        funext x q
        unfold mj_u stn
        by_cases h1 : x = 239 ∧ q = 25 * N + 5 * k + l
        · have a1 : (q - 25 * N) / 5 = k := by omega
          have a2 : (q - 25 * N) % 5 = l := by omega
          rw [if_pos h1, if_pos (by omega), a1, a2]
        · rw [if_neg h1]
          exact ifc (by omega) rfl rfl
      rw [e2])
    refine ⟨.inl (n : Int), h.trans ?_⟩
    rw [l_M_adds_45 hw, rq_n, if_pos (by omega), wS (by omega)]
    have : stn f N n k n A = stn f N n (k + 1) 0 A := by
      funext x q
      unfold stn
      exact ifc (by omega) rfl rfl
    rw [this]) () (.inr (.inr (.inr 0)))
  have e0 : stn f N n 0 0 A = f := by
    funext x q
    unfold stn
    rw [if_neg (by omega)]
  rw [e0] at h
  refine h.trans ?_
  have h9 : rq (stn f N n n 0 A) n v A 223 23 = (N : Int) := by rw [rq_f (by decide) (by decide)]; exact hG n 0
  rw [l_M_adds_33 hw, rq_n, if_pos (by omega), h9, wS (by omega), rq_uf (by decide) (by decide)]
theorem G_append (hw : wk sw w) {F : mj_F} {N a : Nat} (hN : F 37 9 = (N : Int)) (hN60 : N < 60) (ha : a < 8) (hv : F 46 2 = 0 ∨ F 46 2 = 1) (x2 x3 x4 : Int) : mj_call yG_append w F [.inr (.inl 37), .inl (a : Int), .inl x2, .inl x3, .inl x4] = some (w, apF F N a x2 x3 x4, none) := by
  rw [c_G_append hw, hN, Int.toNat_natCast, if_pos (by omega), mj_gd_pos (by omega), Z_become hw (zn48 hN60) zn46 (by omega) F hv, mj_bu_some]
  unfold apF
  have r0 : zs (48 + 2 * N) F (F 46 1) (F 46 2) (gm 47 6 F) 37 9 = (N : Int) := by rw [zs_o (by omega) (by omega)]; exact hN
  have r4 : zs (48 + 2 * N) F (F 46 1) (F 46 2) (gm 47 6 F) 44 a = F 44 a := zs_o (by omega) (by omega)
  have e46 : gm (46 + 1) 6 F = gm 47 6 F := rfl
  rw [e46]
  revert r0 r4
  generalize zs (48 + 2 * N) F (F 46 1) (F 46 2) (gm 47 6 F) = f
  intro r0 r4
  rw [r0, Int.toNat_natCast, mj_gd_pos (by omega)]
  have r1 : mj_u f 39 N (a : Int) 37 9 = (N : Int) := by rw [u_o (by omega)]; exact r0
  rw [r1, Int.toNat_natCast, mj_gd_pos (by omega)]
  have r2 : mj_u (mj_u f 39 N (a : Int)) 40 N x2 37 9 = (N : Int) := by rw [u_o (by omega)]; exact r1
  rw [r2, Int.toNat_natCast, mj_gd_pos (by omega)]
  have r3 : mj_u (mj_u (mj_u f 39 N (a : Int)) 40 N x2) 41 N x3 37 9 = (N : Int) := by rw [u_o (by omega)]; exact r2
  rw [r3, Int.toNat_natCast, mj_gd_pos (by omega)]
  have r5 : mj_u (mj_u (mj_u (mj_u f 39 N (a : Int)) 40 N x2) 41 N x3) 42 N x4 37 9 = (N : Int) := by rw [u_o (by omega)]; exact r3
  rw [r5, Int.toNat_natCast, mj_gd_pos (by omega), mj_gd_pos (by omega)]
  have r6 : mj_u (mj_u (mj_u (mj_u (mj_u f 39 N (a : Int)) 40 N x2) 41 N x3) 42 N x4) 43 N (-1) 37 9 = (N : Int) := by rw [u_o (by omega)]; exact r5
  have r7 : mj_u (mj_u (mj_u (mj_u (mj_u f 39 N (a : Int)) 40 N x2) 41 N x3) 42 N x4) 43 N (-1) 44 a = F 44 a := by rw [u_o (by omega), u_o (by omega), u_o (by omega), u_o (by omega), u_o (by omega)]; exact r4
  revert r6 r7
  generalize mj_u (mj_u (mj_u (mj_u (mj_u f 39 N (a : Int)) 40 N x2) 41 N x3) 42 N x4) 43 N (-1) = f'
  intro r6 r7
  rw [r6, Int.toNat_natCast, r7]
  by_cases h : 0 ≤ F 44 a
  · rw [if_pos h, if_pos h, wS (by omega), ← r7, mu_id]
  · have r8 : mj_u f' 44 a (N : Int) 37 9 = (N : Int) := by rw [u_o (by omega)]; exact r6
    rw [if_neg h, if_neg h, mj_gd_pos (by omega), r8, wS (by omega)]
/-- is it known already: both say alike -/
theorem known_both (hw : wk sw w) (hw' : wk sw' w') {H f g : mj_F} {c np ne st N : Nat} (hc4 : c ≤ 4) (bk : BK H f g c np ne st N) {C A : Mt} (ts : TS (c + 1) 802 (0, C) (0, A)) (x : Int) : ∃ v : Int, mj_call yG_isCovered w (zs 46 f ((c + 1 : Nat) : Int) 0 C) [.inr (.inl 37), .inl x] = some (w, zs 46 f ((c + 1 : Nat) : Int) 0 C, some (.inl v)) ∧ mj_call yM_isKnown w' (rq g ((c + 1 : Nat) : Int) 0 A) [.inr (.inl 223), .inl x] = some (w', rq g ((c + 1 : Nat) : Int) 0 A, some (.inl v)) := by
  rw [c_G_isCovered hw, c_M_isKnown hw']
  obtain ⟨b1, b2, b3, b4, b5⟩ := bk
  have L : ∀ d k : Nat, N - k = d → k ≤ N → ∃ v : Int, mj_run yG_isCovered w (zs 46 f ((c + 1 : Nat) : Int) 0 C) 2 [.inr (.inl 37), .inl x, .inl (k : Int)] [] = some (w, zs 46 f ((c + 1 : Nat) : Int) 0 C, some (.inl v)) ∧ mj_run yM_isKnown w' (rq g ((c + 1 : Nat) : Int) 0 A) 2 [.inr (.inl 223), .inl x, .inl (k : Int)] [] = some (w', rq g ((c + 1 : Nat) : Int) 0 A, some (.inl v)) := by
    have e1 : zs 46 f ((c + 1 : Nat) : Int) 0 C 37 9 = (N : Int) := by rw [zs_o (by omega) (by omega)]; exact b2
    have e2 : rq g ((c + 1 : Nat) : Int) 0 A 223 23 = (N : Int) := by rw [rq_f (by decide) (by decide)]; exact b3
    intro d
    induction d with
    | zero =>
      intro k h1 h2
      have : k = N := by omega
      subst this
      refine ⟨0, ?_, ?_⟩
      · rw [l_G_isCovered_2 hw, e1, if_pos (Int.le_refl _)]
      · rw [l_M_isKnown_2 hw', e2, if_pos (Int.le_refl _)]
    | succ d ih =>
      intro k h1 h2
      obtain ⟨⟨pa, n1, n2, n3⟩, -, -, -, -, n4, n5, -⟩ := b4 k (by omega)
      have e3 : zs 46 f ((c + 1 : Nat) : Int) 0 C 39 k = (pa : Int) := by rw [zs_o (by omega) (by omega)]; exact n2
      have e4 : rq g ((c + 1 : Nat) : Int) 0 A 236 k = (pa : Int) := by rw [rq_o (by decide) (by decide)]; exact n3
      have hNk : ¬ (N : Int) ≤ (k : Int) := by omega
      have gk : (0 : Int) ≤ (k : Int) ∧ (k : Int) < ((60 : Nat) : Int) := ⟨by omega, by omega⟩
      rw [l_G_isCovered_2 hw, l_M_isKnown_2 hw', e1, e2, if_neg hNk, if_neg hNk, mj_gd_pos gk, mj_gd_pos gk, mj_gd_pos gk, Int.toNat_natCast, e3, e4, wS (by omega)]
      by_cases hx : (pa : Int) = x
      rotate_left
      · rw [if_pos hx, if_pos hx]
        exact ih (k + 1) (by omega) (by omega)
      have hz : f (48 + 2 * k) 2 = 0 := (TS_01 n5).2.2
      rw [hz] at n5
      have y := fun q => (zs_y (f := f) (n := ((c + 1 : Nat) : Int)) (v := 0) (C := C) (q := q) zn46 (zn48 (show k < 60 by omega)) (by omega))
      have gk : gm (48 + 2 * k + 1) 6 (zs 46 f ((c + 1 : Nat) : Int) 0 C) = gm (49 + 2 * k) 6 f := by
        unfold gm
        funext i j
        rw [(y _).2, show 48 + 2 * k + 1 = 49 + 2 * k by omega]
      have ec : any (c + 1) (fun i => any (c + 1) (insB g 239 (25 * k) A i)) = cov (c + 1) (gm (48 + 2 * k + 1) 6 (zs 46 f ((c + 1 : Nat) : Int) 0 C)) (gm (46 + 1) 6 (zs 46 f ((c + 1 : Nat) : Int) 0 C)) := by
        unfold cov
        refine any_congr (fun i hi => any_congr (fun j hj => ?_))
        rw [gk]
        have a0 : gm (46 + 1) 6 (zs 46 f ((c + 1 : Nat) : Int) 0 C) i j = C i j := sm_get (show i < 6 by omega) (show j < 6 by omega)
        rw [a0]
        unfold insB
        have a1 := TS_cell ts hi hj
        have a2 : (gm (49 + 2 * k) 6 f i j = 268435456 ∧ g 239 (25 * k + 5 * i + j) = 1000000) ∨ (gm (49 + 2 * k) 6 f i j = g 239 (25 * k + 5 * i + j) ∧ -802 < gm (49 + 2 * k) 6 f i j ∧ gm (49 + 2 * k) 6 f i j < 802 ∧ g 239 (25 * k + 5 * i + j) < 1000000 ∧ gm (49 + 2 * k) 6 f i j < 268435456) := TS_cell n5 hi hj
        exact decide_eq_decide.mpr (by omega)
      rw [if_neg (fun z => z hx), if_neg (fun z => z hx), Z_covers hw (zn48 (show k < 60 by omega)) zn46 _ (n := c + 1) (by omega) (by rw [(y 1).1]; exact n4) (by rw [zs_v]; exact Or.inl rfl), mj_bi_some, (y 2).1, hz, zs_v, if_pos (show (0 : Int) = 0 ∧ (0 : Int) = 0 from ⟨rfl, rfl⟩), w25 (by omega), R_isInside hw' g (k_239 hw') (by decide) (by omega) (by omega) (by decide), mj_bi_some, ec]
      by_cases hb : cov (c + 1) (gm (48 + 2 * k + 1) 6 (zs 46 f ((c + 1 : Nat) : Int) 0 C)) (gm (46 + 1) 6 (zs 46 f ((c + 1 : Nat) : Int) 0 C)) = true
      · rw [if_pos hb, if_pos rfl, if_pos rfl]
        exact ih (k + 1) (by omega) (by omega)
      · rw [if_neg hb, if_neg (by decide), if_neg (by decide)]
        exact ⟨1, rfl, rfl⟩
  exact L N 0 (by omega) (by omega)
end GR
