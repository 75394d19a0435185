/-! The law's calls of its wrappers. -/
theorem l8_tab : ((mj_cts.getD (mj_cn 314) []).all fun e => decide (e.2.1 ≠ 8) || (decide (e = (38, 8, 119, 1245)) || decide (e = (48, 8, 126, 1349)))) = true := by decide +kernel
theorem l8_call {i : Instr} {w : mj_W} {st : List mj_V} {cy k : Nat} {as rest : List mj_V} (hk : k ≠ 0) (h : mj_callee 314 i w st = some (cy, as, rest, k)) : ∃ (x : Nat) (a1 b1 : Int), (i = .invokestatic 38 ∧ cy = 119 ∨ i = .invokestatic 48 ∧ cy = 126) ∧ st = .inr (.inl k) :: .inl b1 :: .inl a1 :: .inr (.inl x) :: rest ∧ as = [.inr (.inl x), .inl a1, .inl b1] ∧ w.1 k = (103, 1) ∧ w.1 x = (8, 0) ∧ mj_low rest = true := by
  have hA : ∀ (cy' : Nat) (virt : Bool), mj_dn 314 cy' (mj_args w st cy' virt) = some (cy, as, rest, k) → k = 0 := by
    intro cy' virt h
    unfold mj_dn at h
    split at h
    · unfold mj_args at h
      split at h
      · split at h
        · split at h
          · cases h; rfl
          · cases h
        · cases h
        · cases h; rfl
      · cases h
    · cases h
  unfold mj_callee at h
  split at h
  · split at h
    · exact absurd (hA _ _ h) hk
    · exact absurd (hA _ _ h) hk
    · cases h
  · next idx =>
    split at h
    · exact absurd (hA _ _ h) hk
    · exact absurd (hA _ _ h) hk
    · next cy' q o bb aa xx r hq =>
      split at h
      · next hw =>
        have hr : (cy', ([.inr (.inl xx), .inl aa, .inl bb] : List mj_V), r, o) = (cy, as, rest, k) := Option.some.inj h
        have r1 : cy' = cy := congrArg (fun q => q.1) hr
        have r2 : ([.inr (.inl xx), .inl aa, .inl bb] : List mj_V) = as := congrArg (fun q => q.2.1) hr
        have r3 : r = rest := congrArg (fun q => q.2.2.1) hr
        have r4 : o = k := congrArg (fun q => q.2.2.2) hr
        subst r1 r2 r3 r4
        have hm := mj_look_mem _ _ _ hq
        have h1 := List.all_eq_true.mp l8_tab _ hm
        simp only [Bool.or_eq_true, decide_eq_true_eq, Prod.mk.injEq, ne_eq, not_true_eq_false, false_or, true_and] at h1
        refine ⟨xx, aa, bb, ?_, rfl, rfl, hw.1, hw.2.1, hw.2.2⟩
        rcases h1 with ⟨e1, e2, -⟩ | ⟨e1, e2, -⟩
        · subst e1 e2
          exact Or.inl ⟨rfl, rfl⟩
        · subst e1 e2
          exact Or.inr ⟨rfl, rfl⟩
      · cases h
    · cases h
  · split at h
    · exact absurd (hA _ _ h) hk
    · exact absurd (hA _ _ h) hk
    · cases h
  · cases h
theorem l8_own : mj_own 314 = wL := by decide +kernel
theorem w_good {cy : Nat} (hT : w_tab cy) : GoodIn lw_t2 (va_wsS wL (wO cy) (wY cy) (wSw cy)) := by
  obtain ⟨t1, t2, t3, t4, t5, t6, t7⟩ := hT
  intro w hw
  have h1 : w ∈ lw_t2 := by
    unfold va_wsS wSw at hw
    rcases List.mem_append.mp hw with h | h
    · simp only [List.mem_cons, List.not_mem_nil, or_false] at h
      rcases h with rfl | rfl | rfl
      · exact t3
      · exact t4
      · rw [t6]
        exact w_ini
    · rcases List.mem_cons.mp h with rfl | h
      · exact t1
      · exact h
  exact ⟨h1, good_of_word (List.mem_filter.mp h1).2⟩
set_option maxHeartbeats 4000000 in
theorem law_8K {p : Program} {l : Launch} {e : Env} {R : Room} {s : State} {m : MethodId} {args : Array Value} {below : List Frame} {meth : Method} {c : Code} {Q : State → Prop} {G : mj_G} {b sz n0 s0 : Nat} (hl : l.stackTraces = false) (C : mj_C p s m args meth c G 314) (hXP : XP sz s) (hNc : va_Nc (xN 2) (xN 1) s) (hRf : 40 ≤ R.frames) (hRl : 4000 ≤ R.locals) : mj_8K p l e R s m args below meth c Q G b sz n0 s0 314 := by
  obtain ⟨hx, hb, hml, hown, hts, hini, hok⟩ := C
  intro n w1 f1 pc1 ls1 st1 i cy k as rest w2 f2 f3 v v3 H1 locs1 lsA1 hd hc hk hex hrt I hRc hRs kk
  obtain ⟨⟨L, hP, hD, hL, hz, hwf, hr⟩, hS, hls, ho, hn, hbz, hX, hn0, hs0⟩ := id I
  obtain ⟨x, a1, b1, hi, rfl, rfl, hk1, hx1, hlow⟩ := l8_call hk hc
  have hcy : cy = 119 ∨ cy = 126 := by
    rcases hi with hi | hi
    · exact Or.inl hi.2
    · exact Or.inr hi.2
  have hdg : decode (mj_code 314) pc1 = .ok (.invokestatic (wO cy), 3) := by
    rcases hi with ⟨rfl, rfl⟩ | ⟨rfl, rfl⟩
    · exact mj_dec_ok hd rfl (by decide)
    · exact mj_dec_ok hd rfl (by decide)
  have hT : w_tab cy := by
    rcases hcy with rfl | rfl
    · exact w_tab1
    · exact w_tab2
  have o1 := List.forall_mem_cons.mp ho
  have o2 := List.forall_mem_cons.mp o1.2
  have o3 := List.forall_mem_cons.mp o2.2
  have o4 := List.forall_mem_cons.mp o3.2
  have hokv : ∀ v ∈ ([.inr (.inl x), .inl a1, .inl b1] : List mj_V), mj_okv v := List.forall_mem_cons.mpr ⟨o4.1, List.forall_mem_cons.mpr ⟨o3.1, List.forall_mem_cons.mpr ⟨o2.1, fun v hv => by cases hv⟩⟩⟩
  have hM := mw_met hl hcy hex hrt hk1 hx1 o3.1 o2.1 hwf hr G b sz
  obtain ⟨g1, g2, g3⟩ := mj_exec_inv _ _ _ _ _ _ _ _ hex hwf hr (mj_pad_ok hokv) (fun v hv => by cases hv)
  have hkl : k ≠ 0 → mj_lv w2 k := fun _ => by
    have hlv : mj_lv w1 k := by unfold mj_lv; rw [hk1]; omega
    unfold mj_lv
    rw [g1.2.2.2.2.2.2 k hlv]
    exact hlv
  obtain ⟨j1, j2⟩ := mj_ret_inv (w := w2) g1.1 g1.2.1 hkl g2 hrt g3
  have hm1 : w1.2.2.1 ≤ w2.2.2.1 := g1.2.2.2.2.1
  have hm2 : w1.2.2.2 ≤ w2.2.2.2 := g1.2.2.2.2.2.1
  have e1 : w1.2.2.1 - n0 + (w2.2.2.1 - w1.2.2.1) = w2.2.2.1 - n0 := by omega
  have e2 : w1.2.2.2 - s0 + (w2.2.2.2 - w1.2.2.2) = w2.2.2.2 - s0 := by omega
  have hfit : w1.2.2.1 - n0 + (w2.2.2.1 - w1.2.2.1) ≤ R.cells ∧ w1.2.2.2 - s0 + (w2.2.2.2 - w1.2.2.2) ≤ R.slots := by rw [e1, e2]; exact ⟨hRc, hRs⟩
  have hR2 : (wR (w2.2.2.1 - w1.2.2.1) (w2.2.2.2 - w1.2.2.2)).frames + 1 ≤ R.frames ∧ 8 + (5 + 11) + (wR (w2.2.2.1 - w1.2.2.1) (w2.2.2.2 - w1.2.2.2)).locals ≤ R.locals := by
    show 30 + 1 ≤ R.frames ∧ 8 + (5 + 11) + 3000 ≤ R.locals
    omega
  obtain ⟨lv, hlv, -⟩ := hls.2.2
  have hl8 := mj_low_ok (b := b) (sz := sz) hlow
  have hpre : ∀ U : State, U.heap = H1 → s.WarmedH U.vm → va_Pc [.ref (mj_ad b sz x), .int (Int32.ofInt a1), .int (Int32.ofInt b1), .ref (mj_ad b sz k)] (wB3 G b sz w1 f1) ([.ref (mj_ad b sz x), .int (Int32.ofInt a1), .int (Int32.ofInt b1), .ref (mj_ad b sz k)] : List Value).toArray U := by
    intro U hU hW
    refine ⟨rfl, ⟨⟨?_, hok.warm hW, hbz, fun q => ?_⟩, XP.go hW (fun q h1 h2 => by rw [hU]; exact hS.2.1 q h1 h2) hXP⟩, va_Nc.moved hW.alike hNc⟩
    · rw [hU]
      exact I.1
    · refine va_X.moved hW.alike ((hX q).kept ?_)
      rw [hU]
      exact hS.2.1 b (by omega) (by show ¬ sz ≤ b; omega)
  have hcont : ∀ (H2 : Heap) (locs2 : List Loc), mj_P G b sz w2 f3 H2 → va_S (mj_A sz) s.heap H2 locs2 → W p l e R s m args below meth c H2 locs2 (w1.2.2.1 - n0 + (w2.2.2.1 - w1.2.2.1)) (w1.2.2.2 - s0 + (w2.2.2.2 - w1.2.2.2)) Q (F0 m (pc1 + 3) lsA1 ((v3.map (mj_val b sz)).toList ++ rest.map (mj_val b sz))) := by
    intro H2 locs2 hP1 hS1
    have h := kk H2 locs2 lsA1 ⟨hP1, hS1, hls, ?_, hn, hbz, mj_X_keep hX g1.2.2.1 (j1.2.2.2.1.trans g1.2.2.2.1), by omega, by omega⟩
    · unfold mj_Wg at h
      rw [e1, e2]
      rw [List.map_append] at h
      cases v3 with
      | none => exact h
      | some u => exact h
    · intro u hu
      rcases List.mem_append.mp hu with h | h
      · cases v3 with
        | none => cases h
        | some x =>
          rw [List.mem_singleton.mp h]
          exact j2 x rfl
      · exact o4.2 u h
  have hown' : s.vm.findClass wL = some m.cls := by rw [← l8_own]; exact hown
  unfold mj_Wg
  have t6 := hT.2.2.2.2.2.1
  exact mx_go (G := G) (b := b) (sz := sz) (w' := w2) (f' := f3) (v := v3) (Z := True) (vx_runSX (As := [.ref (mj_ad b sz x), .int (Int32.ofInt a1), .int (Int32.ofInt b1), .ref (mj_ad b sz k)]) (rest := rest.map (mj_val b sz)) ⟨hx, hb, hml, hown', hts⟩ hM (vx_cwSW 4 hts (w_good hT) rfl rfl rfl ⟨by rw [t6]; decide, by rw [t6]; decide, hT.2.2.2.2.2.2⟩ hR2) ⟨wB3_blind, hpre⟩ rfl rfl hlv.1 rfl (by show 2 * 0 + _ ≤ 8; omega) hdg hfit) (fun st oc t h => ⟨h, trivial⟩) hS (fun q h => h) (fun _ => hcont) (fun E st t q ce Lc h => h.elim)
