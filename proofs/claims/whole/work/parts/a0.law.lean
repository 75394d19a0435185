/-! The law's loop: one call after another. -/
/-- the law's locals -/
def lawL (i : Nat) (u5 u6 : mj_V) : List mj_V := [.inr (.inl 1), .inr (.inl 2), .inr (.inl 223), .inr (.inl 259), .inl (i : Int), u5, u6]
section LW
variable {w w' : mj_W} {f f' : mj_F} {pc p' : Nat} {ls st : List mj_V} {X : Option mj_O}
theorem law_imp : mj_imp 314 = true := by decide +kernel
theorem ms_vcall {idx cy a n : Nat} {as rest : List mj_V} {v : Int} (d : mj_dec 314 pc = some (.invokevirtual idx) ∧ mj_vk 314 idx = some (cy, n + 1)) (hn : as.length = n) (hst : st = as.reverse ++ .inr (.inl a) :: rest) (hl : mj_low rest = true) (hc : as.all (fun v => mj_cat v == 1) = true) (hw : w.1 a = (mj_cn cy, 0)) (hp : pc + 3 = p') (hcall : mj_call cy w f (.inr (.inl a) :: as) = some (w', f', some (.inl v))) (h : mj_run 314 w' f' p' ls (.inl v :: rest) = X) : mj_run 314 w f pc ls st = X := by
  obtain ⟨d, hv⟩ := d
  subst hst hn hp
  have hcl := ms_callee_v (y := 314) hv hl hc hw
  have e : mj_run 314 w f pc ls (as.reverse ++ .inr (.inl a) :: rest) = mj_then 0 (mj_call cy w f (.inr (.inl a) :: as)) 314 pc ls rest :=
    mj_run_call (by unfold mj_nx; rw [d]; dsimp only; rw [if_pos (Or.inl law_imp), show mj_end 314 (.invokevirtual idx) w (as.reverse ++ .inr (.inl a) :: rest) = none from rfl, hcl]; dsimp only; rw [if_pos (Or.inl law_imp)])
  rw [e, hcall]
  exact h
/-- a call by way of one of the law's wrappers -/
theorem ms_wcall {idx cy q : Nat} {rest : List mj_V} {a b : Int} {r : Option mj_V} {f'' : mj_F} {v : Int} (d : mj_dec 314 pc = some (.invokestatic idx) ∧ mj_cl2 (mj_cn 314) idx = some (8, cy, q)) (ho : w.1 259 = (103, 1)) (hx : w.1 2 = (8, 0)) (hl : mj_low rest = true) (hp : pc + 3 = p') (hcall : mj_call cy w f [.inr (.inl 2), .inl a, .inl b] = some (w', f', r)) (hr : mj_ret 259 f' r = some (f'', some (.inl v))) (h : mj_run 314 w' f'' p' ls (.inl v :: rest) = X) : mj_run 314 w f pc ls (.inr (.inl 259) :: .inl b :: .inl a :: .inr (.inl 2) :: rest) = X := by
  obtain ⟨d, hq⟩ := d
  subst hp
  have hcl : mj_callee 314 (.invokestatic idx) w (.inr (.inl 259) :: .inl b :: .inl a :: .inr (.inl 2) :: rest) = some (cy, [.inr (.inl 2), .inl a, .inl b], rest, 259) := by
    simp only [mj_callee, hq]
    rw [if_pos ⟨ho, hx, hl⟩]
  have e : mj_run 314 w f pc ls (.inr (.inl 259) :: .inl b :: .inl a :: .inr (.inl 2) :: rest) = mj_then 259 (mj_call cy w f [.inr (.inl 2), .inl a, .inl b]) 314 pc ls rest :=
    mj_run_call (by unfold mj_nx; rw [d]; dsimp only; rw [if_pos (Or.inl law_imp), show mj_end 314 (.invokestatic idx) w (.inr (.inl 259) :: .inl b :: .inl a :: .inr (.inl 2) :: rest) = none from rfl, hcl]; dsimp only; rw [if_pos (Or.inl law_imp)])
  rw [e, hcall]
  unfold mj_then
  dsimp only
  rw [hr]
  exact h
abbrev argD (pc k : Nat) : Prop := mj_dec 314 pc = some (.aload_n 0) ∧ mj_dec 314 (pc + 1) = some (.iload 4) ∧ mj_dec 314 (pc + 3) = some (.iconst (k : Int)) ∧ mj_dec 314 (pc + 4) = some .iadd ∧ mj_dec 314 (pc + 5) = some .iaload
/-- a number of the script goes on the stack -/
theorem ms_arg {i k L : Nat} {u5 u6 : mj_V} (d : argD pc k) (hk : k ≤ 5) (h1 : w.1 1 = (104, L)) (hi : i + k < L) (hL : L ≤ 3072) (h : mj_run 314 w f (pc + 6) (lawL i u5 u6) (.inl (f 1 (i + k)) :: st) = X) : mj_run 314 w f pc (lawL i u5 u6) st = X := by
  obtain ⟨d1, d2, d3, d4, d5⟩ := d
  have e : mj_w ((i : Int) + (k : Int)) = ((i + k : Nat) : Int) := by unfold mj_w; omega
  refine ms_aload_n (k := 0) (p' := pc + 1) d1 rfl rfl ?_
  refine ms_iload (k := 4) (p' := pc + 3) d2 rfl rfl ?_
  refine ms_iconst (v := (k : Int)) (p' := pc + 4) ⟨d3, mj_to ⟨by omega, by omega⟩⟩ rfl ?_
  refine ms_iadd (p' := pc + 5) d4 rfl ?_
  rw [e]
  refine (ms_sald (p' := pc + 6) d5 rfl h1 (fun _ => ?_)).trans (mj_gd_pos ⟨by omega, by omega⟩ _)
  rw [Int.toNat_natCast]
  exact h
/-- what holds between two calls -/
def LwS (sw : Bool) (L : Nat) (xs : Nat → Int) (w : mj_W) (f : mj_F) : Prop := wk sw w ∧ RR sw f ∧ mj_wf w ∧ (∀ a j, mj_rg (f a j)) ∧ w.1 1 = (104, L) ∧ f 1 = xs ∧ w.1 259 = (103, 1)
theorem call_J {cy : Nat} {as : List mj_V} {v : Option mj_V} (h : mj_call cy w f as = some (w', f', v)) (hwf : mj_wf w) (hr : ∀ a j, mj_rg (f a j)) (ho : ∀ v ∈ as, mj_okv v) : mj_J w f w' f' ∧ ∀ u, v = some u → mj_okv u := by
  obtain ⟨n, hn⟩ := mj_run_ex h
  obtain ⟨a, b, -⟩ := mj_exec_inv n _ _ _ _ _ _ _ hn hwf hr (mj_pad_ok ho) (fun v hv => by cases hv)
  exact ⟨a, b⟩
theorem ok_ints {a : Nat} {f : mj_F} (hr : ∀ a j, mj_rg (f a j)) (js : List Nat) : ∀ v ∈ (.inr (.inl a) : mj_V) :: js.map (fun j => (.inl (f 1 j) : mj_V)), mj_okv v := by
  intro v hv
  rcases List.mem_cons.mp hv with rfl | hv
  · exact trivial
  · obtain ⟨j, -, rfl⟩ := List.mem_map.mp hv
    exact hr 1 j
abbrev caseD0 (pc ix im yx ym : Nat) (off : Int) : Prop := mj_dec 314 pc = some (.aload_n 1) ∧ (mj_dec 314 (pc + 1) = some (.invokevirtual ix) ∧ mj_vk 314 ix = some (yx, 0 + 1)) ∧ mj_dec 314 (pc + 4) = some (.aload_n 2) ∧ (mj_dec 314 (pc + 5) = some (.invokevirtual im) ∧ mj_vk 314 im = some (ym, 0 + 1)) ∧ (mj_dec 314 (pc + 8) = some (.if_icmp .eq off) ∧ mj_j (pc + 8) off = some 2325) ∧ mj_cn yx = 8 ∧ mj_cn ym = 9
theorem law_ok0 {sw : Bool} {L i ix im yx ym : Nat} {xs : Nat → Int} {off : Int} {u5 u6 : mj_V} (C : caseD0 pc ix im yx ym off) (hL : L ≤ 3072) (hi : i + 5 < L) (S : LwS sw L xs w f) (hok : Ok sw w f yx ym []) : ∃ F : mj_F, mj_run 314 w f pc (lawL i u5 u6) [] = mj_run 314 w F 2325 (lawL i u5 u6) [] ∧ LwS sw L xs w F := by
  obtain ⟨d0, d1, d2, d3, d4, d5, d6⟩ := C
  obtain ⟨hw, r, hwf, hr, h1, hx, h9⟩ := S
  obtain ⟨F1, F3, v, c1, c2, r3⟩ := hok
  subst hx
  have j1 := (call_J c1 hwf hr (ok_ints hr [])).1
  have e1 : F1 1 = f 1 := j1.2.2.2.1
  have j2 := (call_J c2 hwf j1.2.1 (fun v hv => ok_ints hr [] v hv)).1
  have e3 : F3 1 = f 1 := j2.2.2.2.1.trans e1
  refine ⟨F3, ?_, hw, r3, hwf, j2.2.1, h1, e3, h9⟩
  refine ms_aload_n (k := 1) (p' := pc + 1) d0 rfl rfl ?_
  refine ms_vcall (n := 0) (a := 2) (as := []) (rest := []) (p' := pc + 4) d1 rfl rfl rfl rfl (by rw [d5]; exact k_2 hw) rfl c1 ?_
  refine ms_aload_n (k := 2) (p' := pc + 5) d2 rfl rfl ?_
  refine ms_vcall (n := 0) (a := 223) (as := []) (rest := [.inl v]) (p' := pc + 8) d3 rfl rfl rfl rfl (by rw [d6]; exact k_223 hw) rfl c2 ?_
  refine (ms_icmp_eq (t := 2325) (p' := pc + 11) (X2 := none) d4 rfl (fun _ => rfl) (fun z => absurd rfl z)).trans (if_pos rfl)
abbrev caseD1 (pc ix im yx ym : Nat) (off : Int) : Prop := mj_dec 314 pc = some (.aload_n 1) ∧ argD (pc + 1) 1 ∧ (mj_dec 314 (pc + 7) = some (.invokevirtual ix) ∧ mj_vk 314 ix = some (yx, 1 + 1)) ∧ mj_dec 314 (pc + 10) = some (.aload_n 2) ∧ argD (pc + 11) 1 ∧ (mj_dec 314 (pc + 17) = some (.invokevirtual im) ∧ mj_vk 314 im = some (ym, 1 + 1)) ∧ (mj_dec 314 (pc + 20) = some (.if_icmp .eq off) ∧ mj_j (pc + 20) off = some 2325) ∧ mj_cn yx = 8 ∧ mj_cn ym = 9
theorem law_ok1 {sw : Bool} {L i ix im yx ym : Nat} {xs : Nat → Int} {off : Int} {u5 u6 : mj_V} (C : caseD1 pc ix im yx ym off) (hL : L ≤ 3072) (hi : i + 5 < L) (S : LwS sw L xs w f) (hok : Ok sw w f yx ym [.inl (xs (i + 1))]) : ∃ F : mj_F, mj_run 314 w f pc (lawL i u5 u6) [] = mj_run 314 w F 2325 (lawL i u5 u6) [] ∧ LwS sw L xs w F := by
  obtain ⟨d0, d1, d2, d3, d4, d5, d6, d7, d8⟩ := C
  obtain ⟨hw, r, hwf, hr, h1, hx, h9⟩ := S
  obtain ⟨F1, F3, v, c1, c2, r3⟩ := hok
  subst hx
  have j1 := (call_J c1 hwf hr (ok_ints hr [i + 1])).1
  have e1 : F1 1 = f 1 := j1.2.2.2.1
  have j2 := (call_J c2 hwf j1.2.1 (fun v hv => ok_ints hr [i + 1] v hv)).1
  have e3 : F3 1 = f 1 := j2.2.2.2.1.trans e1
  refine ⟨F3, ?_, hw, r3, hwf, j2.2.1, h1, e3, h9⟩
  refine ms_aload_n (k := 1) (p' := pc + 1) d0 rfl rfl ?_
  refine ms_arg (k := 1) d1 (by omega) h1 (by omega) hL ?_
  refine ms_vcall (n := 1) (a := 2) (as := [.inl (f 1 (i + 1))]) (rest := []) (p' := pc + 10) d2 rfl rfl rfl rfl (by rw [d7]; exact k_2 hw) rfl c1 ?_
  refine ms_aload_n (k := 2) (p' := pc + 11) d3 rfl rfl ?_
  refine ms_arg (k := 1) d4 (by omega) h1 (by omega) hL ?_
  rw [e1]
  refine ms_vcall (n := 1) (a := 223) (as := [.inl (f 1 (i + 1))]) (rest := [.inl v]) (p' := pc + 20) d5 rfl rfl rfl rfl (by rw [d8]; exact k_223 hw) rfl c2 ?_
  refine (ms_icmp_eq (t := 2325) (p' := pc + 23) (X2 := none) d6 rfl (fun _ => rfl) (fun z => absurd rfl z)).trans (if_pos rfl)
abbrev caseD2 (pc ix im yx ym : Nat) (off : Int) : Prop := mj_dec 314 pc = some (.aload_n 1) ∧ argD (pc + 1) 1 ∧ argD (pc + 7) 2 ∧ (mj_dec 314 (pc + 13) = some (.invokevirtual ix) ∧ mj_vk 314 ix = some (yx, 2 + 1)) ∧ mj_dec 314 (pc + 16) = some (.aload_n 2) ∧ argD (pc + 17) 1 ∧ argD (pc + 23) 2 ∧ (mj_dec 314 (pc + 29) = some (.invokevirtual im) ∧ mj_vk 314 im = some (ym, 2 + 1)) ∧ (mj_dec 314 (pc + 32) = some (.if_icmp .eq off) ∧ mj_j (pc + 32) off = some 2325) ∧ mj_cn yx = 8 ∧ mj_cn ym = 9
theorem law_ok2 {sw : Bool} {L i ix im yx ym : Nat} {xs : Nat → Int} {off : Int} {u5 u6 : mj_V} (C : caseD2 pc ix im yx ym off) (hL : L ≤ 3072) (hi : i + 5 < L) (S : LwS sw L xs w f) (hok : Ok sw w f yx ym [.inl (xs (i + 1)), .inl (xs (i + 2))]) : ∃ F : mj_F, mj_run 314 w f pc (lawL i u5 u6) [] = mj_run 314 w F 2325 (lawL i u5 u6) [] ∧ LwS sw L xs w F := by
  obtain ⟨d0, d1, d2, d3, d4, d5, d6, d7, d8, d9, d10⟩ := C
  obtain ⟨hw, r, hwf, hr, h1, hx, h9⟩ := S
  obtain ⟨F1, F3, v, c1, c2, r3⟩ := hok
  subst hx
  have j1 := (call_J c1 hwf hr (ok_ints hr [i + 1, i + 2])).1
  have e1 : F1 1 = f 1 := j1.2.2.2.1
  have j2 := (call_J c2 hwf j1.2.1 (fun v hv => ok_ints hr [i + 1, i + 2] v hv)).1
  have e3 : F3 1 = f 1 := j2.2.2.2.1.trans e1
  refine ⟨F3, ?_, hw, r3, hwf, j2.2.1, h1, e3, h9⟩
  refine ms_aload_n (k := 1) (p' := pc + 1) d0 rfl rfl ?_
  refine ms_arg (k := 1) d1 (by omega) h1 (by omega) hL ?_
  refine ms_arg (k := 2) d2 (by omega) h1 (by omega) hL ?_
  refine ms_vcall (n := 2) (a := 2) (as := [.inl (f 1 (i + 1)), .inl (f 1 (i + 2))]) (rest := []) (p' := pc + 16) d3 rfl rfl rfl rfl (by rw [d9]; exact k_2 hw) rfl c1 ?_
  refine ms_aload_n (k := 2) (p' := pc + 17) d4 rfl rfl ?_
  refine ms_arg (k := 1) d5 (by omega) h1 (by omega) hL ?_
  refine ms_arg (k := 2) d6 (by omega) h1 (by omega) hL ?_
  rw [e1]
  refine ms_vcall (n := 2) (a := 223) (as := [.inl (f 1 (i + 1)), .inl (f 1 (i + 2))]) (rest := [.inl v]) (p' := pc + 32) d7 rfl rfl rfl rfl (by rw [d10]; exact k_223 hw) rfl c2 ?_
  refine (ms_icmp_eq (t := 2325) (p' := pc + 35) (X2 := none) d8 rfl (fun _ => rfl) (fun z => absurd rfl z)).trans (if_pos rfl)
abbrev caseD3 (pc ix im yx ym : Nat) (off : Int) : Prop := mj_dec 314 pc = some (.aload_n 1) ∧ argD (pc + 1) 1 ∧ argD (pc + 7) 2 ∧ argD (pc + 13) 3 ∧ (mj_dec 314 (pc + 19) = some (.invokevirtual ix) ∧ mj_vk 314 ix = some (yx, 3 + 1)) ∧ mj_dec 314 (pc + 22) = some (.aload_n 2) ∧ argD (pc + 23) 1 ∧ argD (pc + 29) 2 ∧ argD (pc + 35) 3 ∧ (mj_dec 314 (pc + 41) = some (.invokevirtual im) ∧ mj_vk 314 im = some (ym, 3 + 1)) ∧ (mj_dec 314 (pc + 44) = some (.if_icmp .eq off) ∧ mj_j (pc + 44) off = some 2325) ∧ mj_cn yx = 8 ∧ mj_cn ym = 9
theorem law_ok3 {sw : Bool} {L i ix im yx ym : Nat} {xs : Nat → Int} {off : Int} {u5 u6 : mj_V} (C : caseD3 pc ix im yx ym off) (hL : L ≤ 3072) (hi : i + 5 < L) (S : LwS sw L xs w f) (hok : Ok sw w f yx ym [.inl (xs (i + 1)), .inl (xs (i + 2)), .inl (xs (i + 3))]) : ∃ F : mj_F, mj_run 314 w f pc (lawL i u5 u6) [] = mj_run 314 w F 2325 (lawL i u5 u6) [] ∧ LwS sw L xs w F := by
  obtain ⟨d0, d1, d2, d3, d4, d5, d6, d7, d8, d9, d10, d11, d12⟩ := C
  obtain ⟨hw, r, hwf, hr, h1, hx, h9⟩ := S
  obtain ⟨F1, F3, v, c1, c2, r3⟩ := hok
  subst hx
  have j1 := (call_J c1 hwf hr (ok_ints hr [i + 1, i + 2, i + 3])).1
  have e1 : F1 1 = f 1 := j1.2.2.2.1
  have j2 := (call_J c2 hwf j1.2.1 (fun v hv => ok_ints hr [i + 1, i + 2, i + 3] v hv)).1
  have e3 : F3 1 = f 1 := j2.2.2.2.1.trans e1
  refine ⟨F3, ?_, hw, r3, hwf, j2.2.1, h1, e3, h9⟩
  refine ms_aload_n (k := 1) (p' := pc + 1) d0 rfl rfl ?_
  refine ms_arg (k := 1) d1 (by omega) h1 (by omega) hL ?_
  refine ms_arg (k := 2) d2 (by omega) h1 (by omega) hL ?_
  refine ms_arg (k := 3) d3 (by omega) h1 (by omega) hL ?_
  refine ms_vcall (n := 3) (a := 2) (as := [.inl (f 1 (i + 1)), .inl (f 1 (i + 2)), .inl (f 1 (i + 3))]) (rest := []) (p' := pc + 22) d4 rfl rfl rfl rfl (by rw [d11]; exact k_2 hw) rfl c1 ?_
  refine ms_aload_n (k := 2) (p' := pc + 23) d5 rfl rfl ?_
  refine ms_arg (k := 1) d6 (by omega) h1 (by omega) hL ?_
  refine ms_arg (k := 2) d7 (by omega) h1 (by omega) hL ?_
  refine ms_arg (k := 3) d8 (by omega) h1 (by omega) hL ?_
  rw [e1]
  refine ms_vcall (n := 3) (a := 223) (as := [.inl (f 1 (i + 1)), .inl (f 1 (i + 2)), .inl (f 1 (i + 3))]) (rest := [.inl v]) (p' := pc + 44) d9 rfl rfl rfl rfl (by rw [d12]; exact k_223 hw) rfl c2 ?_
  refine (ms_icmp_eq (t := 2325) (p' := pc + 47) (X2 := none) d10 rfl (fun _ => rfl) (fun z => absurd rfl z)).trans (if_pos rfl)
abbrev caseD4 (pc ix im yx ym : Nat) (off : Int) : Prop := mj_dec 314 pc = some (.aload_n 1) ∧ argD (pc + 1) 1 ∧ argD (pc + 7) 2 ∧ argD (pc + 13) 3 ∧ argD (pc + 19) 4 ∧ (mj_dec 314 (pc + 25) = some (.invokevirtual ix) ∧ mj_vk 314 ix = some (yx, 4 + 1)) ∧ mj_dec 314 (pc + 28) = some (.aload_n 2) ∧ argD (pc + 29) 1 ∧ argD (pc + 35) 2 ∧ argD (pc + 41) 3 ∧ argD (pc + 47) 4 ∧ (mj_dec 314 (pc + 53) = some (.invokevirtual im) ∧ mj_vk 314 im = some (ym, 4 + 1)) ∧ (mj_dec 314 (pc + 56) = some (.if_icmp .eq off) ∧ mj_j (pc + 56) off = some 2325) ∧ mj_cn yx = 8 ∧ mj_cn ym = 9
theorem law_ok4 {sw : Bool} {L i ix im yx ym : Nat} {xs : Nat → Int} {off : Int} {u5 u6 : mj_V} (C : caseD4 pc ix im yx ym off) (hL : L ≤ 3072) (hi : i + 5 < L) (S : LwS sw L xs w f) (hok : Ok sw w f yx ym [.inl (xs (i + 1)), .inl (xs (i + 2)), .inl (xs (i + 3)), .inl (xs (i + 4))]) : ∃ F : mj_F, mj_run 314 w f pc (lawL i u5 u6) [] = mj_run 314 w F 2325 (lawL i u5 u6) [] ∧ LwS sw L xs w F := by
  obtain ⟨d0, d1, d2, d3, d4, d5, d6, d7, d8, d9, d10, d11, d12, d13, d14⟩ := C
  obtain ⟨hw, r, hwf, hr, h1, hx, h9⟩ := S
  obtain ⟨F1, F3, v, c1, c2, r3⟩ := hok
  subst hx
  have j1 := (call_J c1 hwf hr (ok_ints hr [i + 1, i + 2, i + 3, i + 4])).1
  have e1 : F1 1 = f 1 := j1.2.2.2.1
  have j2 := (call_J c2 hwf j1.2.1 (fun v hv => ok_ints hr [i + 1, i + 2, i + 3, i + 4] v hv)).1
  have e3 : F3 1 = f 1 := j2.2.2.2.1.trans e1
  refine ⟨F3, ?_, hw, r3, hwf, j2.2.1, h1, e3, h9⟩
  refine ms_aload_n (k := 1) (p' := pc + 1) d0 rfl rfl ?_
  refine ms_arg (k := 1) d1 (by omega) h1 (by omega) hL ?_
  refine ms_arg (k := 2) d2 (by omega) h1 (by omega) hL ?_
  refine ms_arg (k := 3) d3 (by omega) h1 (by omega) hL ?_
  refine ms_arg (k := 4) d4 (by omega) h1 (by omega) hL ?_
  refine ms_vcall (n := 4) (a := 2) (as := [.inl (f 1 (i + 1)), .inl (f 1 (i + 2)), .inl (f 1 (i + 3)), .inl (f 1 (i + 4))]) (rest := []) (p' := pc + 28) d5 rfl rfl rfl rfl (by rw [d13]; exact k_2 hw) rfl c1 ?_
  refine ms_aload_n (k := 2) (p' := pc + 29) d6 rfl rfl ?_
  refine ms_arg (k := 1) d7 (by omega) h1 (by omega) hL ?_
  refine ms_arg (k := 2) d8 (by omega) h1 (by omega) hL ?_
  refine ms_arg (k := 3) d9 (by omega) h1 (by omega) hL ?_
  refine ms_arg (k := 4) d10 (by omega) h1 (by omega) hL ?_
  rw [e1]
  refine ms_vcall (n := 4) (a := 223) (as := [.inl (f 1 (i + 1)), .inl (f 1 (i + 2)), .inl (f 1 (i + 3)), .inl (f 1 (i + 4))]) (rest := [.inl v]) (p' := pc + 56) d11 rfl rfl rfl rfl (by rw [d14]; exact k_223 hw) rfl c2 ?_
  refine (ms_icmp_eq (t := 2325) (p' := pc + 59) (X2 := none) d12 rfl (fun _ => rfl) (fun z => absurd rfl z)).trans (if_pos rfl)
abbrev caseD5 (pc ix im yx ym : Nat) (off : Int) : Prop := mj_dec 314 pc = some (.aload_n 1) ∧ argD (pc + 1) 1 ∧ argD (pc + 7) 2 ∧ argD (pc + 13) 3 ∧ argD (pc + 19) 4 ∧ argD (pc + 25) 5 ∧ (mj_dec 314 (pc + 31) = some (.invokevirtual ix) ∧ mj_vk 314 ix = some (yx, 5 + 1)) ∧ mj_dec 314 (pc + 34) = some (.aload_n 2) ∧ argD (pc + 35) 1 ∧ argD (pc + 41) 2 ∧ argD (pc + 47) 3 ∧ argD (pc + 53) 4 ∧ argD (pc + 59) 5 ∧ (mj_dec 314 (pc + 65) = some (.invokevirtual im) ∧ mj_vk 314 im = some (ym, 5 + 1)) ∧ (mj_dec 314 (pc + 68) = some (.if_icmp .eq off) ∧ mj_j (pc + 68) off = some 2325) ∧ mj_cn yx = 8 ∧ mj_cn ym = 9
theorem law_ok5 {sw : Bool} {L i ix im yx ym : Nat} {xs : Nat → Int} {off : Int} {u5 u6 : mj_V} (C : caseD5 pc ix im yx ym off) (hL : L ≤ 3072) (hi : i + 5 < L) (S : LwS sw L xs w f) (hok : Ok sw w f yx ym [.inl (xs (i + 1)), .inl (xs (i + 2)), .inl (xs (i + 3)), .inl (xs (i + 4)), .inl (xs (i + 5))]) : ∃ F : mj_F, mj_run 314 w f pc (lawL i u5 u6) [] = mj_run 314 w F 2325 (lawL i u5 u6) [] ∧ LwS sw L xs w F := by
  obtain ⟨d0, d1, d2, d3, d4, d5, d6, d7, d8, d9, d10, d11, d12, d13, d14, d15, d16⟩ := C
  obtain ⟨hw, r, hwf, hr, h1, hx, h9⟩ := S
  obtain ⟨F1, F3, v, c1, c2, r3⟩ := hok
  subst hx
  have j1 := (call_J c1 hwf hr (ok_ints hr [i + 1, i + 2, i + 3, i + 4, i + 5])).1
  have e1 : F1 1 = f 1 := j1.2.2.2.1
  have j2 := (call_J c2 hwf j1.2.1 (fun v hv => ok_ints hr [i + 1, i + 2, i + 3, i + 4, i + 5] v hv)).1
  have e3 : F3 1 = f 1 := j2.2.2.2.1.trans e1
  refine ⟨F3, ?_, hw, r3, hwf, j2.2.1, h1, e3, h9⟩
  refine ms_aload_n (k := 1) (p' := pc + 1) d0 rfl rfl ?_
  refine ms_arg (k := 1) d1 (by omega) h1 (by omega) hL ?_
  refine ms_arg (k := 2) d2 (by omega) h1 (by omega) hL ?_
  refine ms_arg (k := 3) d3 (by omega) h1 (by omega) hL ?_
  refine ms_arg (k := 4) d4 (by omega) h1 (by omega) hL ?_
  refine ms_arg (k := 5) d5 (by omega) h1 (by omega) hL ?_
  refine ms_vcall (n := 5) (a := 2) (as := [.inl (f 1 (i + 1)), .inl (f 1 (i + 2)), .inl (f 1 (i + 3)), .inl (f 1 (i + 4)), .inl (f 1 (i + 5))]) (rest := []) (p' := pc + 34) d6 rfl rfl rfl rfl (by rw [d15]; exact k_2 hw) rfl c1 ?_
  refine ms_aload_n (k := 2) (p' := pc + 35) d7 rfl rfl ?_
  refine ms_arg (k := 1) d8 (by omega) h1 (by omega) hL ?_
  refine ms_arg (k := 2) d9 (by omega) h1 (by omega) hL ?_
  refine ms_arg (k := 3) d10 (by omega) h1 (by omega) hL ?_
  refine ms_arg (k := 4) d11 (by omega) h1 (by omega) hL ?_
  refine ms_arg (k := 5) d12 (by omega) h1 (by omega) hL ?_
  rw [e1]
  refine ms_vcall (n := 5) (a := 223) (as := [.inl (f 1 (i + 1)), .inl (f 1 (i + 2)), .inl (f 1 (i + 3)), .inl (f 1 (i + 4)), .inl (f 1 (i + 5))]) (rest := [.inl v]) (p' := pc + 68) d13 rfl rfl rfl rfl (by rw [d16]; exact k_223 hw) rfl c2 ?_
  refine (ms_icmp_eq (t := 2325) (p' := pc + 71) (X2 := none) d14 rfl (fun _ => rfl) (fun z => absurd rfl z)).trans (if_pos rfl)
/-- place, edge -/
abbrev caseE (pc ix im yx ym q : Nat) (off : Int) : Prop := (mj_dec 314 pc = some (.aload_n 1) ∧ argD (pc + 1) 1 ∧ argD (pc + 7) 2 ∧ mj_dec 314 (pc + 13) = some (.aload_n 3)) ∧ (mj_dec 314 (pc + 14) = some (.invokestatic ix) ∧ mj_cl2 (mj_cn 314) ix = some (8, yx, q)) ∧ mj_dec 314 (pc + 17) = some (.istore 5) ∧ mj_dec 314 (pc + 19) = some (.aload_n 2) ∧ argD (pc + 20) 1 ∧ argD (pc + 26) 2 ∧ (mj_dec 314 (pc + 32) = some (.invokevirtual im) ∧ mj_vk 314 im = some (ym, 2 + 1)) ∧ mj_dec 314 (pc + 35) = some (.istore 6) ∧ mj_dec 314 (pc + 37) = some (.aload_n 2) ∧ (mj_dec 314 (pc + 38) = some (.invokevirtual 44) ∧ mj_vk 314 44 = some (yM_thrown, 0 + 1)) ∧ mj_dec 314 (pc + 41) = some (.iload 5) ∧ (mj_dec 314 (pc + 43) = some (.if_icmp .eq 5) ∧ mj_j (pc + 43) 5 = some (pc + 48)) ∧ mj_dec 314 (pc + 48) = some (.iload 5) ∧ (mj_dec 314 (pc + 50) = some (.ifCond .ne 15) ∧ mj_j (pc + 50) 15 = some (pc + 65)) ∧ mj_dec 314 (pc + 53) = some (.aload_n 3) ∧ (mj_dec 314 (pc + 54) = some (.iconst 0) ∧ (Int32.ofInt 0).toInt = 0) ∧ mj_dec 314 (pc + 55) = some .laload ∧ mj_dec 314 (pc + 56) = some (.iload 6) ∧ mj_dec 314 (pc + 58) = some .i2l ∧ mj_dec 314 (pc + 59) = some .lcmp ∧ (mj_dec 314 (pc + 60) = some (.ifCond .eq 5) ∧ mj_j (pc + 60) 5 = some (pc + 65)) ∧ (mj_dec 314 (pc + 65) = some (.goto off) ∧ mj_j (pc + 65) off = some 2325) ∧ mj_cn ym = 9
theorem LwS_junk {sw : Bool} {L : Nat} {xs : Nat → Int} (S : LwS sw L xs w f) : LwS sw L xs (mj_junk w) f := by
  obtain ⟨hw, r, hwf, hr, h1, hx, h9⟩ := S
  refine ⟨⟨hw.1, hw.2.1, by show 260 ≤ w.2.2.1 + 1; have := hw.2.2; omega⟩, r, ⟨by show 2 ≤ w.2.2.1 + 1; have := hwf.1; omega, fun a ha => ?_, hwf.2.2⟩, hr, h1, hx, h9⟩
  have := hwf.2.1 a ha
  show 2 ≤ a ∧ a < w.2.2.1 + 1
  omega
theorem law_okE {sw : Bool} {L i ix im yx ym q : Nat} {xs : Nat → Int} {off : Int} {u5 u6 : mj_V} (C : caseE pc ix im yx ym q off) (hL : L ≤ 3072) (hi : i + 5 < L) (S : LwS sw L xs w f) (hok : OkE sw w f yx ym [.inl (xs (i + 1)), .inl (xs (i + 2))]) : ∃ (W : mj_W) (F : mj_F) (v5 v6 : mj_V), (W = w ∨ W = mj_junk w) ∧ mj_run 314 w f pc (lawL i u5 u6) [] = mj_run 314 W F 2325 (lawL i v5 v6) [] ∧ LwS sw L xs W F := by
  obtain ⟨⟨d1, d2, d3, d4⟩, d5, d6, d7, d8, d9, d10, d11, d12, d13, d14, d15, d16, d17, d18, d19, d20, d21, d22, d23, d24, d25, dm⟩ := C
  have S0 := S
  obtain ⟨hw, r, hwf, hr, h1, hx, h9⟩ := S
  obtain ⟨k, v, hX, hM⟩ := hok
  subst hx
  -- the class's call, by the wrapper
  have hcall : ∃ (W : mj_W) (G : mj_F) (rv : Option mj_V), (W = w ∨ W = mj_junk w) ∧ mj_call yx w f [.inr (.inl 2), .inl (f 1 (i + 1)), .inl (f 1 (i + 2))] = some (W, f, rv) ∧ mj_ret 259 f rv = some (G, some (.inl (k : Int))) ∧ Cor sw f G ∧ (k = 0 → G 259 0 = v) ∧ G 1 = f 1 ∧ ∀ a j, mj_rg (G a j) := by
    rcases hX with ⟨rfl, e⟩ | ⟨hk, e⟩
    · have jj := call_J e hwf hr (ok_ints hr [i + 1, i + 2])
      refine ⟨w, mj_u f 259 0 v, _, Or.inl rfl, e, rfl, Cor_u (Or.inr (Or.inr (Or.inr (Or.inl (by decide))))), fun _ => u_self, by funext j; exact u_o (by omega), fun a j => ?_⟩
      unfold mj_u
      split
      · exact jj.2 _ rfl
      · exact hr a j
    · exact ⟨mj_junk w, f, _, Or.inr rfl, e, rfl, Cor_r _ _, fun z => by omega, rfl, hr⟩
  obtain ⟨W, G, rv, hW, c1, c2, cor, hv, hG1, hGr⟩ := hcall
  have SW : LwS sw L (f 1) W f := by
    rcases hW with rfl | rfl
    · exact S0
    · exact LwS_junk S0
  obtain ⟨hwW, -, hwfW, -, h1W, -, h9W⟩ := SW
  obtain ⟨u, hu, c3, r3⟩ := hM W G hwW cor
  have jm := call_J c3 hwfW hGr (fun x hx => by
    rcases List.mem_cons.mp hx with rfl | hx
    · exact trivial
    · exact ok_ints (a := 2) hr [i + 1, i + 2] x (List.mem_cons_of_mem _ hx))
  have hF1 : mj_u G 223 0 (k : Int) 1 = f 1 := jm.1.2.2.2.1.trans hG1
  refine ⟨W, mj_u G 223 0 (k : Int), .inl (k : Int), .inl u, hW, ?_, hwW, r3, hwfW, jm.1.2.1, h1W, hF1, h9W⟩
  refine ms_aload_n (k := 1) (p' := pc + 1) d1 rfl rfl ?_
  refine ms_arg (k := 1) d2 (by omega) h1 (by omega) hL ?_
  refine ms_arg (k := 2) d3 (by omega) h1 (by omega) hL ?_
  refine ms_aload_n (k := 3) (p' := pc + 14) d4 rfl rfl ?_
  refine ms_wcall (p' := pc + 17) d5 h9 (k_2 hw) rfl rfl c1 c2 ?_
  refine ms_istore (k := 5) (ls' := lawL i (.inl (k : Int)) u6) (p' := pc + 19) d6 rfl (Nat.le_of_ble_eq_true rfl) (by cases i <;> rfl) ?_
  refine ms_aload_n (k := 2) (p' := pc + 20) d7 rfl rfl ?_
  refine ms_arg (k := 1) d8 (by omega) h1W (by omega) hL ?_
  refine ms_arg (k := 2) d9 (by omega) h1W (by omega) hL ?_
  rw [hG1]
  refine ms_vcall (n := 2) (a := 223) (as := [.inl (f 1 (i + 1)), .inl (f 1 (i + 2))]) (rest := []) (p' := pc + 35) d10 rfl rfl rfl rfl (by rw [dm]; exact k_223 hwW) rfl c3 ?_
  refine ms_istore (k := 6) (ls' := lawL i (.inl (k : Int)) (.inl u)) (p' := pc + 37) d11 rfl (Nat.le_of_ble_eq_true rfl) rfl ?_
  refine ms_aload_n (k := 2) (p' := pc + 38) d12 rfl rfl ?_
  refine ms_vcall (n := 0) (a := 223) (as := []) (rest := []) (p' := pc + 41) d13 rfl rfl rfl rfl (k_223 hwW) rfl (c_M_thrown hwW _) ?_
  rw [u_self]
  refine ms_iload (k := 5) (p' := pc + 43) d14 rfl rfl ?_
  refine (ms_icmp_eq (t := pc + 48) (p' := pc + 46) (X2 := none) d15 rfl (fun _ => rfl) (fun z => absurd rfl z)).trans ((if_pos rfl).trans ?_)
  refine ms_iload (k := 5) (p' := pc + 50) d16 rfl rfl ?_
  refine (ms_if_ne (t := pc + 65) (p' := pc + 53) d17 rfl (fun _ => rfl) (fun z => rfl)).trans ?_
  by_cases hk : (k : Int) = 0
  rotate_left
  · rw [if_pos hk]
    exact ms_goto (p' := 2325) d25 rfl
  rw [if_neg (fun z => z hk)]
  have hk0 : k = 0 := by omega
  refine ms_aload_n (k := 3) (p' := pc + 54) d18 rfl rfl ?_
  refine ms_iconst (v := 0) (p' := pc + 55) d19 rfl ?_
  refine (ms_lald (p' := pc + 56) d20 rfl h9W (fun _ => rfl)).trans ((mj_gd_pos (by decide) _).trans ?_)
  refine ms_iload (k := 6) (p' := pc + 58) d21 rfl rfl ?_
  refine ms_i2l (p' := pc + 59) d22 rfl ?_
  refine ms_lcmp (p' := pc + 60) d23 rfl ?_
  have e0 : mj_u G 223 0 (k : Int) 259 (0 : Int).toNat = u := by
    show mj_u G 223 0 (k : Int) 259 0 = u
    rw [u_o (by decide), hv hk0, hu hk0]
  have ec : mj_cmp (mj_u G 223 0 (k : Int) 259 (0 : Int).toNat) u = 0 := by
    rw [e0]
    unfold mj_cmp
    rw [if_neg (Int.lt_irrefl u), if_pos rfl]
  rw [ec]
  refine (ms_if_eq (t := pc + 65) (p' := pc + 63) (X2 := none) d24 rfl (fun _ => rfl) (fun z => absurd rfl z)).trans ((if_pos rfl).trans ?_)
  exact ms_goto (p' := 2325) d25 rfl
end LW
