/-! A zone is made; a row is filled: in any world. -/
theorem z_o {f : mj_F} {n a q : Nat} (h : a ≠ n) : mj_z f n a q = f a q := by unfold mj_z; rw [if_neg h]
theorem z_s {f : mj_F} {n q : Nat} : mj_z f n n q = 0 := by unfold mj_z; rw [if_pos rfl]
section AF
variable {w : mj_W}
theorem ca_fill (f : mj_F) (r0 nr0 : Nat) (x1 : Int) (hr0 : w.1 r0 = (100, nr0)) (lr0 : nr0 < 2147483648) : mj_call yA_fill w f [.inr (.inl r0), .inl x1] = mj_run yA_fill w f 5 [.inr (.inl r0), .inl x1, .inl 0, .inl ((nr0 : Nat) : Int)] [] := by
  show mj_run yA_fill w f 0 [.inr (.inl r0), .inl x1, .inr (.inr (.inr 0)), .inr (.inr (.inr 0))] [] = _
  refine ms_iconst (n := 0) (v := 0) (p' := 1) (by decide +kernel) rfl ?_
  refine ms_istore_n (k := 2) (ls' := [.inr (.inl r0), .inl x1, .inl 0, .inr (.inr (.inr 0))]) (p' := 2) (by decide +kernel) rfl (Nat.le_of_ble_eq_true rfl) rfl ?_
  refine ms_aload_n (k := 0) (p' := 3) (by decide +kernel) rfl rfl ?_
  refine ms_alen (p' := 4) (by decide +kernel) rfl hr0 ⟨by decide, lr0⟩ ?_
  refine ms_istore_n (k := 3) (ls' := [.inr (.inl r0), .inl x1, .inl 0, .inl ((nr0 : Nat) : Int)]) (p' := 5) (by decide +kernel) rfl (Nat.le_of_ble_eq_true rfl) rfl ?_
  rfl
theorem la_fill (f : mj_F) (r0 nr0 : Nat) (x1 : Int) (x2 : Int) (x3 : Int) (hr0 : w.1 r0 = (100, nr0)) : mj_run yA_fill w f 5 [.inr (.inl r0), .inl x1, .inl x2, .inl x3] [] = if x3 ≤ x2 then some (w, f, none) else mj_gd (0 ≤ x2 ∧ x2 < ((nr0 : Nat) : Int)) (mj_run yA_fill w (mj_u f r0 x2.toNat x1) 5 [.inr (.inl r0), .inl x1, .inl (mj_w (x2 + 1)), .inl x3] []) := by
  refine ms_iload_n (k := 2) (p' := 6) (by decide +kernel) rfl rfl ?_
  refine ms_iload_n (k := 3) (p' := 7) (by decide +kernel) rfl rfl ?_
  refine ms_icmp_ge (off := 13) (t := 20) (p' := 10) (by decide +kernel) rfl (fun hc => ?_) (fun hc => ?_)
  · exact ms_vret (by decide +kernel)
  · refine ms_aload_n (k := 0) (p' := 11) (by decide +kernel) rfl rfl ?_
    refine ms_iload_n (k := 2) (p' := 12) (by decide +kernel) rfl rfl ?_
    refine ms_iload_n (k := 1) (p' := 13) (by decide +kernel) rfl rfl ?_
    refine ms_iast (p' := 14) (by decide +kernel) rfl hr0 (fun hj1 => ?_)
    refine ms_iinc (k := 2) (n := 1) (ls' := [.inr (.inl r0), .inl x1, .inl (mj_w (x2 + 1)), .inl x3]) (p' := 17) (by decide +kernel) rfl rfl rfl ?_
    refine ms_goto (off := (-12)) (p' := 5) (by decide +kernel) ?_
    rfl
theorem af_fill (f : mj_F) {a n : Nat} (ha : w.1 a = (100, n)) (hn : n < 1000000) (x : Int) : mj_call yA_fill w f [.inr (.inl a), .inl x] = some (w, fillM f a n x, none) := by
  rw [ca_fill _ a n _ ha (by omega)]
  have h := loop_st (fun k => mj_run yA_fill w (fillM f a k x) 5 [.inr (.inl a), .inl x, .inl (k : Int), .inl (n : Int)] []) (Nat.zero_le n) (fun k _ hk => by
    show mj_run yA_fill w (fillM f a k x) 5 [.inr (.inl a), .inl x, .inl (k : Int), .inl (n : Int)] [] = mj_run yA_fill w (fillM f a (k + 1) x) 5 [.inr (.inl a), .inl x, .inl ((k + 1 : Nat) : Int), .inl (n : Int)] []
    rw [la_fill _ a n _ _ _ ha, if_neg (by omega), mj_gd_pos ⟨by omega, by omega⟩, Int.toNat_natCast, wS (by omega), fill_S])
  rw [fill_0] at h
  refine h.trans ?_
  show mj_run yA_fill w (fillM f a n x) 5 [.inr (.inl a), .inl x, .inl (n : Int), .inl (n : Int)] [] = _
  rw [la_fill _ a n _ _ _ ha, if_pos (by omega)]
end AF
theorem wkZ_all : ((List.range 260).all fun a => !zn a || (List.range 70).all fun k => (decide (k = 0) || decide (wk_ref false a k = 0)) && decide (wk_ref false (a + 1) k = 0)) = true := by decide +kernel
theorem wkZ {a : Nat} (h : zn a = true) (k : Nat) : (wk_ref false a k ≠ 0 → k = 0) ∧ wk_ref false (a + 1) k = 0 := by
  have h1 := zn_lt h
  have h2 := List.all_eq_true.mp wkZ_all a (List.mem_range.mpr (by omega))
  rw [h] at h2
  have h3 : ((List.range 70).all fun k => (decide (k = 0) || decide (wk_ref false a k = 0)) && decide (wk_ref false (a + 1) k = 0)) = true := h2
  have g : ∀ k, k < 70 → (k = 0 ∨ wk_ref false a k = 0) ∧ wk_ref false (a + 1) k = 0 := fun k hk => by
    have := List.all_eq_true.mp h3 k (List.mem_range.mpr hk)
    simp only [Bool.and_eq_true, Bool.or_eq_true, decide_eq_true_eq] at this
    exact this
  refine ⟨fun hz => ?_, ?_⟩
  · rcases (g k (wk_big hz)).1 with q | q
    · exact q
    · exact absurd q hz
  · refine Classical.byContradiction fun hz => hz ?_
    exact (g k (wk_big hz)).2
/-- the memory behind a zone's making -/
def zF (f : mj_F) (n : Nat) : mj_F := fillM (mj_u (mj_u (mj_z (mj_z f n) (n + 1)) n 1 1) n 2 0) (n + 1) 36 1
theorem zF_o {f : mj_F} {n a q : Nat} (h : a ≠ n) (h' : a ≠ n + 1) : zF f n a q = f a q := by unfold zF; rw [fill_o h', u_o (Or.inl h), u_o (Or.inl h), z_o h', z_o h]
theorem zF_1 {f : mj_F} {n : Nat} : zF f n n 1 = 1 := by unfold zF; rw [fill_o (by omega), u_o (by omega), u_self]
theorem zF_2 {f : mj_F} {n : Nat} : zF f n n 2 = 0 := by unfold zF; rw [fill_o (by omega), u_self]
theorem zF_c {f : mj_F} {n : Nat} : zF f n (n + 1) 0 = 1 := by unfold zF; rw [fill_in (by omega)]
section MZ
variable {y : Nat} {f : mj_F} {pc p' : Nat} {ls st : List mj_V} {X : Option mj_O} {L n s : Nat} {l : List (Nat × Nat)}
theorem pdB_cons {a t : Nat} {l : List (Nat × Nat)} {x y : Nat} : pdB ((a, t) :: l) x y = ((a == x && decide (t ≤ y)) || pdB l x y) := rfl
theorem Z_init (hz : zn n = true) (hp : ∀ y, pdB l n y = false) : mj_call yZ_init (wCn L (n + 1) s ((n, 0) :: l)) (mj_z f n) [.inr (.inl n)] = some (wCn L (n + 2) (s + 36) l, zF f n, none) := by
  have hn := zn_lt hz
  have hk := (zn_at (sw := false) hz).1
  have hr := (zn_at (sw := false) hz).2
  have hzz := wkZ hz
  have k1 : ∀ s, (wCn L (n + 1 + 1) s ((n, 0) :: l)).1 n = (7, 0) := fun s => (wCn_k (by omega) (by omega)).trans hk.1
  have k2 : ∀ s, (wCn L (n + 1 + 1) s l).1 n = (7, 0) := fun s => (wCn_k (by omega) (by omega)).trans hk.1
  have k3 : ∀ s, (wCn L (n + 1 + 1) s l).1 (n + 1) = (100, 36) := fun s => (wCn_k (by omega) (by omega)).trans hk.2
  show mj_run yZ_init (wCn L (n + 1) s ((n, 0) :: l)) (mj_z f n) 0 [.inr (.inl n)] [] = _
  refine ms_aload_n (k := 0) (p' := 1) (by decide +kernel) rfl rfl ?_
  refine mc_obj (idx := 3) (x := 0) (q := 355) (p' := 4) (by decide +kernel) rfl rfl ?_
  refine ms_aload_n (k := 0) (p' := 5) (by decide +kernel) rfl rfl ?_
  refine ms_bipush (n := 36) (v := 36) (p' := 7) (by decide +kernel) rfl ?_
  refine mc_newa (at_ := .int) (kd := 100) (m := 36) (l' := (n, 0) :: l) (p' := 9) ⟨by decide +kernel, Or.inl ⟨rfl, rfl⟩, by decide +kernel, hk.2, by omega⟩ ⟨rfl, by decide⟩ (fun x y hxy => ⟨fun e => absurd (by rw [e]; exact (hzz y).2) hxy, fun _ => rfl⟩) rfl ?_
  refine mc_putr (idx := 9) (ci := 7) (k := 0) (q := 359) (l' := l) (p' := 12) (by decide +kernel) ⟨hk.1, hr⟩ ⟨by omega, by omega, by omega⟩ (fun x y hxy => ?_) rfl ?_
  · rw [pdB_cons]
    by_cases e : x = n
    · subst e
      have := (hzz y).1 hxy
      subst this
      rw [hp 0]
      simp
    · have e1 : (n == x) = false := beq_eq_false_iff_ne.mpr (fun q => e q.symm)
      have e2 : (x == n) = false := beq_eq_false_iff_ne.mpr e
      rw [e1, e2]
      simp
  refine ms_aload_n (k := 0) (p' := 13) (by decide +kernel) rfl rfl ?_
  refine ms_iconst (n := 1) (v := 1) (p' := 14) (by decide +kernel) rfl ?_
  refine ms_puti (idx := 15) (ci := 7) (k := 1) (q := 360) (p' := 17) (by decide +kernel) rfl (k2 _) ?_
  refine ms_aload_n (k := 0) (p' := 18) (by decide +kernel) rfl rfl ?_
  refine ms_iconst (n := 0) (v := 0) (p' := 19) (by decide +kernel) rfl ?_
  refine Eq.trans (ms_putz (idx := 19) (ci := 7) (k := 2) (q := 362) (p' := 22) (by decide +kernel) rfl (k2 _) (fun _ => ?_)) (mj_gd_pos (by decide) _)
  refine ms_aload_n (k := 0) (p' := 23) (by decide +kernel) rfl rfl ?_
  refine ms_getr (idx := 9) (ci := 7) (k := 0) (q := 359) (r := n + 1) (p' := 26) (by decide +kernel) rfl (k2 _) ((wCn_r (by omega) (by omega) (hp 0)).trans hr) (by omega) ?_
  refine ms_iconst (n := 1) (v := 1) (p' := 27) (by decide +kernel) rfl ?_
  refine (ms_stat_u (idx := 23) (cy := yA_fill) (n := 2) (as := [.inr (.inl (n + 1)), .inl 1]) (rest := []) (p' := 30) (by decide +kernel) rfl rfl rfl rfl rfl (fun f1 => ms_vret (by decide +kernel))).trans ?_
  rw [af_fill _ (k3 _) (by decide), mj_bu_some]
  rfl
/-- 'new Zone()' -/
theorem mc_zone {ix iy q1 q2 : Nat} (d : (mj_dec y pc = some (.new ix) ∧ mj_cl2 (mj_cn y) ix = some (9, 7, q1)) ∧ mj_dec y (pc + 3) = some .dup ∧ (mj_dec y (pc + 4) = some (.invokespecial iy) ∧ mj_cl2 (mj_cn y) iy = some (5, yZ_init, q2)) ∧ mj_lev yZ_init < mj_lev y ∧ mj_imp y = true) (hz : zn n = true) (hp : ∀ y, pdB l n y = false) (hst : mj_low (.inr (.inl n) :: st) = true) (hpc : pc + 7 = p') (h : mj_run y (wCn L (n + 2) (s + 39) l) (zF f n) p' ls (.inr (.inl n) :: st) = X) : mj_run y (wCn L n s l) f pc ls st = X := by
  obtain ⟨d1, d2, d3, hlev, hi⟩ := d
  have hn := zn_lt hz
  have hk := (zn_at (sw := false) hz).1
  have hzz := wkZ hz
  subst hpc
  refine mc_new (ci := 7) (z := 3) (l' := (n, 0) :: l) (p' := pc + 3) ⟨d1, ⟨by decide, by decide +kernel, hi⟩, hk.1, by omega⟩ (fun x y hxy => ⟨fun e => ?_, fun e => ?_⟩) rfl ?_
  · subst e
    rw [pdB_cons]
    simp
  · rw [pdB_cons, beq_eq_false_iff_ne.mpr (fun q => e q.symm)]
    simp
  refine ms_dup_a (p' := pc + 4) d2 rfl ?_
  exact mc_ctor (kd := 5) (p' := pc + 7) ⟨d3.1, d3.2, Or.inr rfl, hlev, by decide +kernel, hi⟩ ((wCn_k (by omega) (by omega)).trans hk.1) hst rfl (Z_init hz hp) h
end MZ
/-- one reference less is wanting in a row -/
theorem pd_step {r k : Nat} {R : List (Nat × Nat)} (hR : ∀ y, pdB R r y = false) (x y : Nat) : pdB ((r, k + 1) :: R) x y = (pdB ((r, k) :: R) x y && !(x == r && y == k)) := by
  rw [pdB_cons, pdB_cons]
  by_cases e : x = r
  · subst e
    rw [hR y]
    by_cases h : y = k
    · subst h
      simp
    · have : decide (k + 1 ≤ y) = decide (k ≤ y) := decide_eq_decide.mpr (by omega)
      rw [this, beq_eq_false_iff_ne.mpr h]
      simp
  · rw [beq_eq_false_iff_ne.mpr (fun q => e q.symm), beq_eq_false_iff_ne.mpr e]
    simp
def okEz (l l' : List (Nat × Nat)) : Bool := (l.map (fun e => e.1) ++ l'.map (fun e => e.1)).all (fun x => (List.range 70).all (fun y => decide (wk_ref false x y = 0) || (pdB l' x y == pdB l x y)))
theorem okE_of {l l' : List (Nat × Nat)} (h : okEz l l' = true) (x y : Nat) (hy : wk_ref false x y ≠ 0) : pdB l' x y = pdB l x y := by
  by_cases hx : x ∈ l.map (fun e => e.1) ++ l'.map (fun e => e.1)
  · have h1 := List.all_eq_true.mp (List.all_eq_true.mp h x hx) y (List.mem_range.mpr (wk_big hy))
    simp only [Bool.or_eq_true, decide_eq_true_eq, beq_iff_eq] at h1
    rcases h1 with h1 | h1
    · exact absurd h1 hy
    · exact h1
  · rw [pdB_no (fun z => hx (List.mem_append_left _ z)), pdB_no (fun z => hx (List.mem_append_right _ z))]
