/-! The law's beginning, and its whole run on our machine. -/
theorem wk_no104 : ((List.range 260).all fun a => decide ((wk_k.getD a (0, 0)).1 ≠ 104) || decide (a = 1)) = true := by decide +kernel
theorem wCn_wf {L n s : Nat} {l : List (Nat × Nat)} (h2 : 2 ≤ n) (h : n ≤ 260) : mj_wf (wCn L n s l) := by
  refine ⟨h2, fun a ha => ?_, fun a ha => ?_⟩
  · have e : (wCn L n s l).1 a = if a = 1 then (104, L) else if 2 ≤ a ∧ a < n then wk_k.getD a (0, 0) else (200, 0) := rfl
    unfold mj_lv at ha
    rw [e] at ha
    by_cases h1 : a = 1
    · rw [if_pos h1] at ha
      exact absurd ha (by show ¬ (104 < 10 ∨ 100 ≤ 104 ∧ 104 ≤ 103); omega)
    · rw [if_neg h1] at ha
      by_cases h3 : 2 ≤ a ∧ a < n
      · exact h3
      · rw [if_neg h3] at ha
        exact absurd ha (by show ¬ (200 < 10 ∨ 100 ≤ 200 ∧ 200 ≤ 103); omega)
  · have e : (wCn L n s l).1 a = if a = 1 then (104, L) else if 2 ≤ a ∧ a < n then wk_k.getD a (0, 0) else (200, 0) := rfl
    rw [e] at ha
    by_cases h1 : a = 1
    · exact h1
    · rw [if_neg h1] at ha
      by_cases h3 : 2 ≤ a ∧ a < n
      · rw [if_pos h3] at ha
        have := List.all_eq_true.mp wk_no104 a (List.mem_range.mpr (by omega))
        simp only [Bool.or_eq_true, decide_eq_true_eq] at this
        rcases this with q | q
        · exact absurd ha q
        · exact q
      · rw [if_neg h3] at ha
        exact absurd ha (by show ¬ (200 : Nat) = 104; decide)
theorem wCn_wk {L s : Nat} : wk false (wCn L 260 s []) := ⟨fun a h1 h2 => wCn_k h1 h2, fun a k h1 h2 => wCn_r h1 h2 rfl, Nat.le_refl _⟩
theorem z_rg {f : mj_F} {n : Nat} (h : ∀ a j, mj_rg (f a j)) : ∀ a j, mj_rg (mj_z f n a j) := fun a j => by
  unfold mj_z
  split
  · exact mj_rg0
  · exact h a j
/-- the relation of what the constructors made -/
theorem RR_new {F : mj_F} (h3 : F 3 1 = 0 ∧ F 3 8 = 0 ∧ F 3 9 = -1) (h18 : F 18 0 = 0 ∧ F 18 1 = 0 ∧ F 18 2 = 0 ∧ F 18 3 = 0 ∧ F 18 4 = 0) (h37 : F 37 9 = 0) (h168 : F 168 1 = 0) (h170 : F 170 4 = 1) (h178 : F 178 4 = 0 ∧ F 178 5 = 0) (ht : ∀ t, t < 4 → F (215 + 2 * t) 1 = 1 ∧ F (215 + 2 * t) 2 = 0 ∧ F (216 + 2 * t) 0 = 1) (h223 : F 223 1 = 0 ∧ F 223 2 = 0 ∧ F 223 3 = 0 ∧ F 223 4 = 0 ∧ F 223 5 = 0 ∧ F 223 18 = 0 ∧ F 223 23 = 0 ∧ F 223 25 = 0 ∧ F 223 31 = 0 ∧ F 223 32 = -1) (h233 : F 233 0 = 0) (h234 : ∀ t, t < 4 → F 234 (25 * t) = 1 ∧ F 234 (100 + t) = 0) (h104 : F 234 104 = 0) : RR false F := by
  obtain ⟨m1, m2, m3, m4, m5, m18, m23, m25, m31, m32⟩ := h223
  obtain ⟨p0, p1, p2, p3, p4⟩ := h18
  refine ⟨0, 0, 0, 0, 0, 0, 0, 0, 0, fun _ => 0, ⟨⟨by omega, by omega, by omega, by omega, Or.inl rfl, fun e he => absurd he (by omega)⟩, ⟨?_, ?_, ?_, ?_, ?_, ?_, ?_, ?_, ?_⟩, fun l hl => absurd hl (by omega), fun e he => absurd he (by omega), h233, fun i hi => absurd hi (by omega)⟩, fun t h => ⟨(ht t h).1, ?_⟩, ⟨by omega, h37, m23, fun k hk => absurd hk (by omega), fun a ha => absurd ha (by omega)⟩, ⟨by omega, h168, h104, fun i hi => absurd hi (by omega), fun i hi => absurd hi (by omega), fun z => ?_⟩, ⟨by omega, by omega, h178.1, h178.2, m18, fun k hk => absurd hk (by omega)⟩, ⟨by omega, h3.1, m25, fun i hi => absurd hi (by omega), ?_, ?_⟩⟩
  · show F 18 0 = F 223 1; rw [p0, m1]
  · exact p1
  · exact m2
  · exact p2
  · exact m3
  · exact p3
  · exact m4
  · exact p4
  · exact m5
  · have T := TS_zero (n := 0 + 1) (M := 802) (by decide) (A := fun _ _ => 1) (fun _ _ _ _ => rfl)
    refine TS_e T (ht t h).2.1 (h234 t h).2 (fun i j hi hj => ?_) (fun i j hi hj => ?_)
    · have e1 : i = 0 := by omega
      have e2 : j = 0 := by omega
      subst e1 e2
      exact (ht t h).2.2
    · have e1 : i = 0 := by omega
      have e2 : j = 0 := by omega
      subst e1 e2
      exact (h234 t h).1
  · rw [h170] at z
    exact absurd z (by decide)
  · rw [h3.2.1, m31]
  · rw [h3.2.2, m32]
/-- the memory at the law's beginning: the script alone -/
def f0 (xs : Nat → Int) : mj_F := fun a j => if a = 1 then xs j else 0
theorem law_start {L : Nat} {xs : Nat → Int} (hx : ∀ j, mj_rg (xs j)) : ∃ F : mj_F, mj_run 314 (wCn L 2 0 []) (f0 xs) 0 (mj_pad 314 [.inr (.inl 1)]) [] = mj_run 314 (wCn L 260 17717 []) F 23 (lawL 0 (.inr (.inr (.inr 0))) (.inr (.inr (.inr 0)))) [] ∧ LwS false L xs (wCn L 260 17717 []) F := by
  have r0 : ∀ a j, mj_rg (f0 xs a j) := fun a j => by
    unfold f0
    split
    · exact hx j
    · exact mj_rg0
  obtain ⟨f1, e1, fr1, x1, x2, x3, x4, x5, x6, x7, x8, x9, x10, x11, x12, x13, t1, t2, t3, t4, t5, t6, t7, t8, t9, t10, t11, t12⟩ := ci_X L (mj_z (f0 xs) 2)
  obtain ⟨f2, e2, fr2, n234, n2, n1, n3, n4, n5, n18, n23, n25, n31, n32, n233, n104⟩ := ci_M L (mj_z f1 223) (fun q => z_s)
  have o1 : ∀ v ∈ ([.inr (.inl 2)] : List mj_V), mj_okv v := fun v hv => by rw [List.mem_singleton.mp hv]; exact trivial
  have o2 : ∀ v ∈ ([.inr (.inl 223)] : List mj_V), mj_okv v := fun v hv => by rw [List.mem_singleton.mp hv]; exact trivial
  have j1 := (call_J e1 (wCn_wf (by omega) (by omega)) (z_rg r0) o1).1
  have j2 := (call_J e2 (wCn_wf (by omega) (by omega)) (z_rg j1.2.1) o2).1
  have lo : ∀ a q, a < 223 → mj_z f2 259 a q = f1 a q := fun a q h => by rw [z_o (by omega), fr2 a q h, z_o (by omega)]
  have hi : ∀ a q, a ≠ 259 → mj_z f2 259 a q = f2 a q := fun a q h => z_o h
  refine ⟨mj_z f2 259, ?_, wCn_wk, ?_, wCn_wf (by omega) (by omega), z_rg j2.2.1, rfl, ?_, (wCn_k (by decide) (by decide)).trans (by decide +kernel)⟩
  · have hp : mj_pad 314 [.inr (.inl 1)] = ([.inr (.inl 1), .inr (.inr (.inr 0)), .inr (.inr (.inr 0)), .inr (.inr (.inr 0)), .inr (.inr (.inr 0)), .inr (.inr (.inr 0)), .inr (.inr (.inr 0))] : List mj_V) := by decide +kernel
    rw [hp]
    refine mc_new (idx := 8) (ci := 8) (q := 180) (z := 11) (l' := [(2, 0)]) (p' := 3) ⟨⟨by decide +kernel, by decide +kernel⟩, ⟨by decide, by decide +kernel, by decide +kernel⟩, by decide +kernel, by decide⟩ (okN_of (by decide +kernel)) rfl ?_
    refine ms_dup_a (p' := 4) (by decide +kernel) rfl ?_
    refine mc_ctor (idx := 20) (cy := yX_init) (kd := 4) (q := 182) (p' := 7) ⟨by decide +kernel, by decide +kernel, by decide, by decide +kernel, by decide +kernel, by decide +kernel⟩ ((wCn_k (by decide) (by decide)).trans (by decide +kernel)) rfl rfl e1 ?_
    refine ms_astore_n (k := 1) (p' := 8) (ls' := [.inr (.inl 1), .inr (.inl 2), .inr (.inr (.inr 0)), .inr (.inr (.inr 0)), .inr (.inr (.inr 0)), .inr (.inr (.inr 0)), .inr (.inr (.inr 0))]) (by decide +kernel) rfl (by decide) rfl ?_
    refine mc_new (idx := 21) (ci := 9) (q := 1365) (z := 61) (l' := [(223, 0)]) (p' := 11) ⟨⟨by decide +kernel, by decide +kernel⟩, ⟨by decide, by decide +kernel, by decide +kernel⟩, by decide +kernel, by decide⟩ (okN_of (by decide +kernel)) rfl ?_
    refine ms_dup_a (p' := 12) (by decide +kernel) rfl ?_
    refine mc_ctor (idx := 23) (cy := yM_init) (kd := 4) (q := 1367) (p' := 15) ⟨by decide +kernel, by decide +kernel, by decide, by decide +kernel, by decide +kernel, by decide +kernel⟩ ((wCn_k (by decide) (by decide)).trans (by decide +kernel)) rfl rfl e2 ?_
    refine ms_astore_n (k := 2) (p' := 16) (ls' := [.inr (.inl 1), .inr (.inl 2), .inr (.inl 223), .inr (.inr (.inr 0)), .inr (.inr (.inr 0)), .inr (.inr (.inr 0)), .inr (.inr (.inr 0))]) (by decide +kernel) rfl (by decide) rfl ?_
    refine ms_iconst (n := 1) (v := 1) (p' := 17) (by decide +kernel) rfl ?_
    refine mc_newa (at_ := .long) (kd := 103) (m := 1) (l' := []) (p' := 19) ⟨by decide +kernel, Or.inr (Or.inr ⟨rfl, rfl⟩), by decide +kernel, by decide +kernel, by decide⟩ ⟨rfl, by decide⟩ (okN_of (by decide +kernel)) rfl ?_
    refine ms_astore_n (k := 3) (p' := 20) (ls' := [.inr (.inl 1), .inr (.inl 2), .inr (.inl 223), .inr (.inl 259), .inr (.inr (.inr 0)), .inr (.inr (.inr 0)), .inr (.inr (.inr 0))]) (by decide +kernel) rfl (by decide) rfl ?_
    refine ms_iconst (n := 0) (v := 0) (p' := 21) (by decide +kernel) rfl ?_
    refine ms_istore (k := 4) (p' := 23) (ls' := lawL 0 (.inr (.inr (.inr 0))) (.inr (.inr (.inr 0)))) (by decide +kernel) rfl (by decide) rfl ?_
    rfl
  · refine RR_new ⟨?_, ?_, ?_⟩ ⟨?_, ?_, ?_, ?_, ?_⟩ ?_ ?_ ?_ ⟨?_, ?_⟩ (fun t ht => ?_) ⟨?_, ?_, ?_, ?_, ?_, ?_, ?_, ?_, ?_, ?_⟩ ?_ (fun t ht => ?_) ?_
    · rw [lo _ _ (by decide)]; exact x1
    · rw [lo _ _ (by decide)]; exact x2
    · rw [lo _ _ (by decide)]; exact x3
    · rw [lo _ _ (by decide)]; exact x4
    · rw [lo _ _ (by decide)]; exact x5
    · rw [lo _ _ (by decide)]; exact x6
    · rw [lo _ _ (by decide)]; exact x7
    · rw [lo _ _ (by decide)]; exact x8
    · rw [lo _ _ (by decide)]; exact x9
    · rw [lo _ _ (by decide)]; exact x10
    · rw [lo _ _ (by decide)]; exact x11
    · rw [lo _ _ (by decide)]; exact x12
    · rw [lo _ _ (by decide)]; exact x13
    · rw [lo _ _ (by omega), lo _ _ (by omega), lo _ _ (by omega)]
      rcases (show t = 0 ∨ t = 1 ∨ t = 2 ∨ t = 3 by omega) with rfl | rfl | rfl | rfl
      · exact ⟨t1, t2, t3⟩
      · exact ⟨t4, t5, t6⟩
      · exact ⟨t7, t8, t9⟩
      · exact ⟨t10, t11, t12⟩
    · rw [hi _ _ (by decide)]; exact n1
    · rw [hi _ _ (by decide)]; exact n2
    · rw [hi _ _ (by decide)]; exact n3
    · rw [hi _ _ (by decide)]; exact n4
    · rw [hi _ _ (by decide)]; exact n5
    · rw [hi _ _ (by decide)]; exact n18
    · rw [hi _ _ (by decide)]; exact n23
    · rw [hi _ _ (by decide)]; exact n25
    · rw [hi _ _ (by decide)]; exact n31
    · rw [hi _ _ (by decide)]; exact n32
    · rw [hi _ _ (by decide)]; exact n233
    · rw [hi _ _ (by decide), hi _ _ (by decide)]; exact n234 t ht
    · rw [hi _ _ (by decide)]; exact n104
  · funext q
    rw [lo 1 q (by decide), fr1 1 q (by decide), z_o (by decide)]
    rfl
/-- the law answers true, on every script -/
theorem law_true {L : Nat} {xs : Nat → Int} (hL : L ≤ 3072) (hx : ∀ j, mj_rg (xs j)) : ∃ (n : Nat) (W : mj_W) (F : mj_F), mj_exec n 314 (wCn L 2 0 []) (f0 xs) 0 (mj_pad 314 [.inr (.inl 1)]) [] = some (W, F, some (.inl 1)) ∧ W.2.2.1 ≤ 772 ∧ W.2.2.2 ≤ 20789 := by
  obtain ⟨F, e, S⟩ := law_start (L := L) hx
  obtain ⟨W, F2, e2, b1, b2⟩ := law_loop hL 512 0 false (wCn L 260 17717 []) F (.inr (.inr (.inr 0))) (.inr (.inr (.inr 0))) (by omega) (by omega) S
  obtain ⟨n, hn⟩ := mj_run_ex (e.trans e2)
  have c1 : (wCn L 260 17717 []).2.2.1 = 260 := rfl
  have c2 : (wCn L 260 17717 []).2.2.2 = 17717 := rfl
  exact ⟨n, W, F2, hn, by omega, by omega⟩
