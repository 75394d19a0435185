/-! The contract of place() and edge(), out of a run of ours. -/
def mx_Q (G : mj_G) (b sz : Nat) (w : mj_W) (f : mj_F) (v : Option mj_V) : Array Value → State → Outcome → State → Prop := fun a st oc t => mj_Q G b sz w f v a st oc t ∧ ∀ k, v ≠ some (.inr (.inr (.inr k)))
def mx_B (G : mj_G) (b sz : Nat) (w : mj_W) (f : mj_F) (U : State) : Prop := mj_B G b sz w f U ∧ XP sz U
theorem mx_B_blind {G : mj_G} {b sz : Nat} {w : mj_W} {f : mj_F} {av : List Value} : FrameBlind (va_Pc av (mx_B G b sz w f)) := by
  intro a U g mk h
  obtain ⟨h1, h2, h3⟩ := h
  have h4 := mj_B_blind (G := G) (b := b) (sz := sz) (w := w) (f := f) (av := av) a U g mk ⟨h1, h2⟩
  exact ⟨h1, h4.2, XP.go (s := U) (U := U.calling g mk a) (State.WarmedH.refl U) (fun _ _ _ => rfl) h3⟩
section MXM
variable {p : Program} {l : Launch} {e : Env} {R : Room} {s : State} {m : MethodId} {args : Array Value} {below : List Frame} {meth : Method} {c : Code} {Q : State → Prop} {G : mj_G} {b sz : Nat} {H : Heap} {n0 s0 : Nat} {w : mj_W} {f : mj_F} {ls : List mj_V} {locs : List Loc} {lsA : Array Slot} {pc : Nat}
theorem mx_thr {cy i k is ic ix mc ms : Nat} {rx : ByteArray} {Qc : Array Value → State → Outcome → State → Prop} (hcy : mj_own cy = "ClockZones") (C : mj_C p s m args meth c G cy) (hl : l.stackTraces = false) (ht : ∀ x ∈ c.exceptionTable.toList, False) (hlocks : meth.locks = false) (hXP : XP sz s) (hk : k = 1 ∨ k = 2) (hfit : Bundle.fit (xN k) = true)
    (hA : mxA k = Cond.classLink "ClockZones" i (xN k) :: Cond.initialized (xN k) :: (mt_at "ClockZones" ic (xN k) ix rx "java/lang/RuntimeException" ["java/lang/Exception"]).filter vx_no) (hrx : decode rx 0 = .ok (.aload_n 0, 1) ∧ decode rx 1 = .ok (.aload_n 1, 1) ∧ decode rx 2 = .ok (.invokespecial ix, 3) ∧ decode rx 5 = .ok (.return_, 1)) (hstr : ∃ sa, vk_R "ClockZones" is (xTx is) sa s)
    (d0 : decode (mj_code cy) pc = .ok (.new i, 3)) (d3 : decode (mj_code cy) (pc + 3) = .ok (.dup, 1)) (d4 : decode (mj_code cy) (pc + 4) = .ok (.ldc is, 2)) (d6 : decode (mj_code cy) (pc + 6) = .ok (.invokespecial ic, 3)) (d9 : decode (mj_code cy) (pc + 9) = .ok (.athrow, 1))
    (I : mj_I s G b sz n0 s0 cy w f ls [] H locs lsA) (hRf : 20 ≤ R.frames) (hRl : 2000 ≤ R.locals) (hRc : mc ≤ R.cells) (hRs : ms ≤ R.slots) (hmc : (mj_junk w).2.2.1 - n0 ≤ mc) (hms : (mj_junk w).2.2.2 - s0 ≤ ms) :
    W p l e R s m args below meth c H locs (w.2.2.1 - n0) (w.2.2.2 - s0) (vx_MQ below Qc (mx_XC G b sz (mj_junk w) f (some (.inr (.inr (.inr k))))) args s mc ms (fun q => sz ≤ q)) (F0 m pc lsA []) := by
  obtain ⟨hx, hb, hml, hown, hts, hini, hok⟩ := C
  obtain ⟨sa, hsa⟩ := hstr
  obtain ⟨lv, hlv, -⟩ := I.2.2.1.2.2
  obtain ⟨-, -, -, -, -, -, -, hn0, hs0⟩ := id I
  have hmc' : w.2.2.1 + 1 - n0 ≤ mc := hmc
  have hms' : w.2.2.2 + 6 - s0 ≤ ms := hms
  rw [hcy] at hown
  have hall := mx_all hk hts hXP.2.2.2
  rw [hA] at hall
  refine mt_throw (own := "ClockZones") (cls := xN k) (text := xTx is) (Y := "java/lang/RuntimeException") (r := ["java/lang/Exception"]) (ik := i) (is := is) (ic := ic) (ix := ix) (rx := rx) (sa := sa) (A := mj_A sz) hx hb hl hrx.1 hrx.2.1 hrx.2.2.1 hrx.2.2.2 hown hfit (by decide +kernel) (by decide +kernel) (hall _ List.mem_cons_self).1 (hall _ (List.mem_cons_of_mem _ List.mem_cons_self)).1 hsa (fun w h => (hall _ (List.mem_cons_of_mem _ (List.mem_cons_of_mem _ h))).1) (fun w h => (hall w h).2) hXP.2.1 hXP.2.2.1 I.2.1 (hlv.1.trans hml.symm) d0 d3 d4 d6 d9 (fun x hx => (ht x hx).elim) ?_ ?_ (by omega) (by omega) hlocks ?_ I.2.1.2.2 (by omega) (by omega)
  · show 1 + 1 + 3 < R.frames
    omega
  · show 0 + (13 * (1 + 1 + 1) + 43) ≤ R.locals
    omega
  · intro t hal h1 h2
    refine ⟨k, hk, rfl, rfl, I.1.junk h1 h2, ?_, fun q g1 g2 => ?_⟩
    · have := I.2.1.1
      omega
    · exact (h2 q (Nat.lt_of_lt_of_le g1 I.2.1.1)).trans (I.2.1.2.1 q g1 g2)
theorem mx_r1 : decode prog_14_method_2_code 0 = .ok (.aload_n 0, 1) ∧ decode prog_14_method_2_code 1 = .ok (.aload_n 1, 1) ∧ decode prog_14_method_2_code 2 = .ok (.invokespecial 7, 3) ∧ decode prog_14_method_2_code 5 = .ok (.return_, 1) := ⟨by decide +kernel, by decide +kernel, by decide +kernel, by decide +kernel⟩
theorem mx_r2 : decode prog_21_method_4_code 0 = .ok (.aload_n 0, 1) ∧ decode prog_21_method_4_code 1 = .ok (.aload_n 1, 1) ∧ decode prog_21_method_4_code 2 = .ok (.invokespecial 13, 3) ∧ decode prog_21_method_4_code 5 = .ok (.return_, 1) := ⟨by decide +kernel, by decide +kernel, by decide +kernel, by decide +kernel⟩
end MXM
theorem mx_c119 : mj_own 119 = "ClockZones" ∧ mj_own 126 = "ClockZones" ∧ mj_cn 119 = 8 ∧ mj_cn 126 = 8 ∧ mj_rt 119 = some .int ∧ mj_rt 126 = some .int ∧ mj_mkd 119 = 1 ∧ mj_mkd 126 = 1 ∧ mj_ar 119 = 3 ∧ mj_ar 126 = 3 ∧ mj_lev 119 ≤ 18 ∧ mj_lev 126 ≤ 18 :=
  ⟨by decide +kernel, by decide +kernel, by decide +kernel, by decide +kernel, by decide +kernel, by decide +kernel, by decide +kernel, by decide +kernel, by decide +kernel, by decide +kernel, by decide +kernel, by decide +kernel⟩
theorem mx_c {cy : Nat} (h : cy = 119 ∨ cy = 126) : mj_own cy = "ClockZones" ∧ mj_cn cy = 8 ∧ mj_rt cy = some .int ∧ mj_mkd cy = 1 ∧ mj_ar cy = 3 ∧ mj_lev cy ≤ 18 ∧ cy < 314 := by
  obtain ⟨a1, a2, a3, a4, a5, a6, a7, a8, a9, a10, a11, a12⟩ := mx_c119
  rcases h with rfl | rfl
  · exact ⟨a1, a3, a5, a7, a9, a11, by decide⟩
  · exact ⟨a2, a4, a6, a8, a10, a12, by decide⟩
theorem mx_k1 : mj_cl2 8 110 = some (11, 1, 1254) := by decide +kernel
theorem mx_k2 : mj_cl2 8 136 = some (11, 2, 1333) := by decide +kernel
theorem mx_fit1 : Bundle.fit (xN 1) = true := by decide +kernel
theorem mx_fit2 : Bundle.fit (xN 2) = true := by decide +kernel
theorem mx_met {l : Launch} {n cy : Nat} {w : mj_W} {f : mj_F} {as : List mj_V} {w2 : mj_W} {f2 : mj_F} {v : Option mj_V} (hl : l.stackTraces = false) (hcy : cy = 119 ∨ cy = 126) (hx : mj_exec n cy w f 0 (mj_pad cy as) [] = some (w2, f2, v)) (hc : ∀ v ∈ as, mj_cat v = 1) (ho : ∀ v ∈ as, mj_okv v) (hlen : as.length ≤ mj_nL cy) (G : mj_G) (b sz : Nat) :
    vx_Met l (mj_nm cy) (mj_ws cy) (mx_rm (w2.2.2.1 - w.2.2.1) (w2.2.2.2 - w.2.2.2)) (va_Pc (as.map (mj_val b sz)) (mx_B G b sz w f)) (mx_Q G b sz w2 f2 v) (mx_XC G b sz w2 f2 v) (w2.2.2.1 - w.2.2.1) (w2.2.2.2 - w.2.2.2) (fun q => sz ≤ q) := by
  obtain ⟨c1, c2, c3, c4, c5, c6, c7⟩ := mx_c hcy
  have hm := mj_mok_all c7
  unfold mj_mok at hm
  simp only [Bool.and_eq_true, decide_eq_true_eq] at hm
  obtain ⟨⟨⟨⟨⟨⟨hi1, hi2⟩, hi3⟩, hi4⟩, hi5⟩, hi6⟩, -⟩ := hm
  refine vx_ofW (cc := mj_code cy) (maxL := mj_nL cy) (ret := mj_rt cy) hi2 rfl ?_
  intro p e s m args below meth c s₁ B hml htab hpre
  obtain ⟨rfl, ⟨hP, hok, hbz, hX⟩, hXP⟩ := hpre
  have hts := atoms_spec (ws := mj_ws cy) B.pre
  have hown : s.vm.findClass (mj_own cy) = some m.cls := by rw [mj_own_nm (by omega)]; exact findClass_of_methodNamed B.named
  have hlocks := B.notSynchronized
  have hret := B.returns
  have hnm := (name_of_methodNamed B.named B.method).1
  obtain ⟨lsA, he, hls⟩ := mj_entry (b := b) (sz := sz) hc ho hlen m
  rw [he]
  have hC : mj_C p s m (as.map (mj_val b sz)).toArray meth c G cy := ⟨B.exec, B.bytes, hml, hown, fun w hw => hts w (List.mem_cons_of_mem _ hw), fun h => by rw [hnm]; exact beq_iff_eq.mp h, hok⟩
  obtain ⟨L, hP1, hD, hL, hz, hwf, hr⟩ := hP
  have hI : mj_I s G b sz w.2.2.1 w.2.2.2 cy w f (mj_pad cy as) [] s.heap [] lsA := ⟨⟨L, hP1, hD, hL, hz, hwf, hr⟩, va_S.rf, hls, (fun v hv => by cases hv), ⟨hz, hwf.1⟩, hbz, hX, Nat.le_refl _, Nat.le_refl _⟩
  have hcn : mj_cn cy ≠ 10 := by rw [c2]; decide
  have key := mj_simx l n cy w f 0 (mj_pad cy as) [] _ hx (R := (headSpec (mj_ws cy) (mx_rm (w2.2.2.1 - w.2.2.1) (w2.2.2.2 - w.2.2.2))).room) (below := below) (Q := vx_MQ below (mx_Q G b sz w2 f2 v) (mx_XC G b sz w2 f2 v) (as.map (mj_val b sz)).toArray s (w2.2.2.1 - w.2.2.1) (w2.2.2.2 - w.2.2.2) (fun q => sz ≤ q)) (p := p) (e := e) hC hI (by show mj_lev cy + 1 ≤ 20; omega) (by show 100 * (mj_lev cy + 1) ≤ 2000; omega) (Nat.le_refl _) (Nat.le_refl _) ?_ ?_
  · unfold mj_Wg at key
    rw [Nat.sub_self, Nat.sub_self] at key
    exact key
  · intro w1 f1 pc1 ls1 st1 i w3 v3 H1 locs1 lsA1 hd hend hreq I1
    have hq : (w2, f2, v) = (w3, f1, v3) := hreq
    cases hq
    have hfree : ∀ q ∈ locs1, sz ≤ q.base := I1.2.1.2.2
    have hdx : ∀ {j : Instr}, i = j → mj_len j = 1 → decode (mj_code cy) pc1 = .ok (j, 1) := fun hj h1 => by subst hj; exact mj_dec_ok hd h1 (by decide)
    unfold mj_end at hend
    split at hend
    · split at hend
      · next x =>
        split at hend
        · cases hend
          have hq : ∀ t : State, t.heap = H1 → s.WarmedH t.vm → mx_Q G b sz w2 f2 (some (.inl x)) (as.map (mj_val b sz)).toArray s (.returned (some (.int (Int32.ofInt x)))) t := fun t ht _ => ⟨⟨rfl, by rw [ht]; exact I1.1, I1.2.1.F ht⟩, fun k h => by cases h⟩
          exact vx_ret (W.iret B.exec B.bytes (by rw [hret, c3]) hq hfree (hdx rfl rfl) hlocks)
        · cases hend
      · cases hend
    · split at hend
      · split at hend
        · next hrt =>
          rw [c3] at hrt
          cases hrt.2
        · cases hend
      · cases hend
    · split at hend
      · split at hend
        · next hrt =>
          rw [c3] at hrt
          cases hrt
        · cases hend
      · cases hend
    · next idx =>
      split at hend
      · next k q heq =>
        cases hend
        rw [c2] at heq
        obtain ⟨hi, e3, e4, e6, e9⟩ := mx_at hcy hd
        have e0 : decode (mj_code cy) pc1 = .ok (.new idx, 3) := mj_dec_ok hd rfl (by decide)
        rcases hi with rfl | rfl
        · rw [mx_k1] at heq
          cases heq
          rw [if_neg (by decide)] at e4 e6
          rcases hcy with rfl | rfl
          · rw [if_pos rfl] at e4
            exact mx_thr (i := 110) (k := 1) (is := 112) (ic := 114) c1 hC hl htab hlocks hXP (Or.inl rfl) mx_fit1 rfl mx_r1 (hXP.1 112 (Or.inl rfl)) e0 e3 e4 e6 e9 I1 (Nat.le_refl _) (Nat.le_refl _) (Nat.le_refl _) (Nat.le_refl _) (Nat.le_refl _) (Nat.le_refl _)
          · rw [if_neg (by decide)] at e4
            exact mx_thr (i := 110) (k := 1) (is := 144) (ic := 114) c1 hC hl htab hlocks hXP (Or.inl rfl) mx_fit1 rfl mx_r1 (hXP.1 144 (Or.inr (Or.inr rfl))) e0 e3 e4 e6 e9 I1 (Nat.le_refl _) (Nat.le_refl _) (Nat.le_refl _) (Nat.le_refl _) (Nat.le_refl _) (Nat.le_refl _)
        · rw [mx_k2] at heq
          cases heq
          rw [if_pos rfl] at e4 e6
          exact mx_thr (i := 136) (k := 2) (is := 138) (ic := 140) c1 hC hl htab hlocks hXP (Or.inr rfl) mx_fit2 rfl mx_r2 (hXP.1 138 (Or.inr (Or.inl rfl))) e0 e3 e4 e6 e9 I1 (Nat.le_refl _) (Nat.le_refl _) (Nat.le_refl _) (Nat.le_refl _) (Nat.le_refl _) (Nat.le_refl _)
      · cases hend
    · cases hend
  · intro n w1 f1 pc1 ls1 st1 i cy' k as' rest w2' f2' f3' v' v3' H1 locs1 lsA1 hd hc hk
    exact absurd (mj_no8_ok hcn hc) hk
