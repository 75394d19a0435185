/-! The law's two wrappers: an answer into the row, or the kind of what was thrown. -/
section MXG
variable {p : Program} {l : Launch} {e : Env} {R : Room} {s : State} {m : MethodId} {args : Array Value} {below : List Frame} {meth : Method} {c : Code} {Q : State → Prop} {G : mj_G} {b sz : Nat} {H : Heap} {w' : mj_W} {f' : mj_F} {locs : List Loc} {lsA : Array Slot} {pc : Nat}
theorem mx_go {Z : Prop} {XC : String → State → State → Prop} {Qa : State → Outcome → State → Prop} {v : Option mj_V} {st0 rest : List Value} {a : Array Value} {free : Addr → Prop} {cells slots mc ms : Nat} (hr : vx_Run p l e R s m args below meth c H locs cells slots mc ms (F0 m pc lsA st0) rest Qa XC free) (hQ : ∀ st oc t, Qa st oc t → mj_Q G b sz w' f' v a st oc t ∧ Z) (hS : va_S (mj_A sz) s.heap H locs) (hf : ∀ q, free q → sz ≤ q)
    (kk : Z → ∀ (H1 : Heap) (locs1 : List Loc), mj_P G b sz w' f' H1 → va_S (mj_A sz) s.heap H1 locs1 → W p l e R s m args below meth c H1 locs1 (cells + mc) (slots + ms) Q (F0 m (pc + 3) lsA ((v.map (mj_val b sz)).toList ++ rest)))
    (kx : ∀ (E : String) (st t : State) (q : Addr) (ce : Cell) (L : List Loc), XC E st t → st.heap = H → t.heap[q]? = some ce → ce.vm = .none → s.vm.findClass E = some ce.cls → (∀ z ∈ L, free z.base) → vx_W p l e R s m args below meth c t.heap (locs ++ L) (cells + mc) (slots + ms) Q (F0 m pc lsA rest) q) : W p l e R s m args below meth c H locs cells slots Q (F0 m pc lsA st0) := by
  intro T hT X
  rcases hr T hT X with ⟨v0, st₀, t, T', L, h0, X', hL, e1, e2, hqa, st⟩ | ⟨q, st₀, t, T', L, E, ce, h0, X', hL, e1, e2, hxc, hce, hcv, hcl, st⟩
  · obtain ⟨⟨hv, hP, hz, hk⟩, hZ⟩ := hQ _ _ _ hqa
    have hv : v0 = v.map (mj_val b sz) := by injection hv
    subst hv
    rw [h0] at hz hk
    obtain ⟨t2, a1, b1⟩ := kk hZ T'.heap (locs ++ L) (by rw [e1]; exact hP) ⟨Nat.le_trans hS.1 (by rw [e1]; exact hz), fun q h1 h2 => by rw [e1, hk q (Nat.lt_of_lt_of_le h1 hS.1) h2]; exact hS.2.1 q h1 h2, fun q hq => by
        rcases List.mem_append.mp hq with h | h
        · exact hS.2.2 q h
        · exact hf _ (hL q h)⟩ T' rfl X'
    exact ⟨t2, st t2 a1, b1⟩
  · obtain ⟨t2, a1, b1⟩ := kx E st₀ t q ce L hxc h0 hce hcv hcl hL T' e1 X'
    exact ⟨t2, st.trans a1, b1⟩
end MXG
def wL : String := "ClockZonesLaw"
def wY (cy : Nat) : MethodName := if cy = 119 then ⟨"ClockZonesLaw", "place", "(LClockZones;II[J)I"⟩ else ⟨"ClockZonesLaw", "edge", "(LClockZones;II[J)I"⟩
def wC (cy : Nat) : ByteArray := if cy = 119 then method_3_code else method_4_code
def wI (cy : Nat) : Nat := if cy = 119 then 7 else 17
def wO (cy : Nat) : Nat := if cy = 119 then 38 else 48
def wH : List (Nat × Nat × Nat × Nat) := [(0, 10, 13, 13), (0, 10, 17, 15)]
def wSw (cy : Nat) : List Cond := Cond.codeWith (wY cy) (wC cy) 5 (some .int) wH :: lw_t2
def wR (cells slots : Nat) : Room := { frames := 30, cells := cells, slots := slots, locals := 3000 }
def wB3 (G : mj_G) (b sz : Nat) (w : mj_W) (f : mj_F) (U : State) : Prop := mx_B G b sz w f U ∧ va_Nc (xN 2) (xN 1) U
def w_dec (cy : Nat) : Prop := decode (wC cy) 0 = .ok (.aload_n 3, 1) ∧ decode (wC cy) 1 = .ok (.iconst 0, 1) ∧ decode (wC cy) 2 = .ok (.aload_n 0, 1) ∧ decode (wC cy) 3 = .ok (.iload_n 1, 1) ∧ decode (wC cy) 4 = .ok (.iload_n 2, 1) ∧ decode (wC cy) 5 = .ok (.invokevirtual (wI cy), 3) ∧ decode (wC cy) 8 = .ok (.i2l, 1) ∧ decode (wC cy) 9 = .ok (.lastore, 1) ∧ decode (wC cy) 10 = .ok (.goto 11, 3) ∧ decode (wC cy) 13 = .ok (.astore 4, 2) ∧ decode (wC cy) 15 = .ok (.iconst 1, 1) ∧ decode (wC cy) 16 = .ok (.ireturn, 1) ∧ decode (wC cy) 17 = .ok (.astore 4, 2) ∧ decode (wC cy) 19 = .ok (.iconst 2, 1) ∧ decode (wC cy) 20 = .ok (.ireturn, 1) ∧ decode (wC cy) 21 = .ok (.iconst 0, 1) ∧ decode (wC cy) 22 = .ok (.ireturn, 1)
theorem w_dec1 : w_dec 119 := ⟨by decide +kernel, by decide +kernel, by decide +kernel, by decide +kernel, by decide +kernel, by decide +kernel, by decide +kernel, by decide +kernel, by decide +kernel, by decide +kernel, by decide +kernel, by decide +kernel, by decide +kernel, by decide +kernel, by decide +kernel, by decide +kernel, by decide +kernel⟩
theorem w_dec2 : w_dec 126 := ⟨by decide +kernel, by decide +kernel, by decide +kernel, by decide +kernel, by decide +kernel, by decide +kernel, by decide +kernel, by decide +kernel, by decide +kernel, by decide +kernel, by decide +kernel, by decide +kernel, by decide +kernel, by decide +kernel, by decide +kernel, by decide +kernel, by decide +kernel⟩
/-- the words that the wrappers need -/
def w_tab (cy : Nat) : Prop := Cond.codeWith (wY cy) (wC cy) 5 (some .int) wH ∈ lw_t2 ∧ Cond.methodLink wL (wI cy) (mj_nm cy) ∈ lw_t2 ∧ Cond.methodLink wL (wO cy) (wY cy) ∈ lw_t2 ∧ Cond.static (wY cy) ∈ lw_t2 ∧ plainName (wY cy).cls = true ∧ (wY cy).cls = wL ∧ (parseMethodDescriptor (wY cy).desc).map (fun d => d.parameters.length) = some 4
theorem w_tab1 : w_tab 119 := ⟨mj_t2 (q := 1247) (by decide +kernel) (by decide +kernel), mj_t2 (q := 1250) (by decide +kernel) (by decide +kernel), mj_t2 (q := 1245) (by decide +kernel) (by decide +kernel), mj_t2 (q := 1246) (by decide +kernel) (by decide +kernel), by decide +kernel, by decide +kernel, by decide +kernel⟩
theorem w_tab2 : w_tab 126 := ⟨mj_t2 (q := 1351) (by decide +kernel) (by decide +kernel), mj_t2 (q := 1352) (by decide +kernel) (by decide +kernel), mj_t2 (q := 1349) (by decide +kernel) (by decide +kernel), mj_t2 (q := 1350) (by decide +kernel) (by decide +kernel), by decide +kernel, by decide +kernel, by decide +kernel⟩
theorem w_ini : Cond.initialized wL ∈ lw_t2 := List.mem_filter.mpr ⟨by decide +kernel, by decide +kernel⟩
theorem w_l13 : Cond.classLink wL 13 (xN 1) ∈ lw_t2 := mj_t2 (q := 1248) (by decide +kernel) (by decide +kernel)
theorem w_l15 : Cond.classLink wL 15 (xN 2) ∈ lw_t2 := mj_t2 (q := 1249) (by decide +kernel) (by decide +kernel)
theorem wB3_blind {G : mj_G} {b sz : Nat} {w : mj_W} {f : mj_F} {av : List Value} : FrameBlind (va_Pc av (wB3 G b sz w f)) := by
  intro a U g mk h
  obtain ⟨h1, h2, h3⟩ := h
  have h4 := mx_B_blind (G := G) (b := b) (sz := sz) (w := w) (f := f) (av := av) a U g mk ⟨h1, h2⟩
  exact ⟨h1, h4.2, va_Nc.moved (u := U) (U := U.calling g mk a) (Vm.Alike.refl U.vm) h3⟩
theorem w_upd {f : mj_F} {k : Nat} {r : Int} : (fun j => Int64.ofInt (mj_u f k 0 r k j)) = vp_updL (fun j => Int64.ofInt (f k j)) (0 : Int32).toNatClampNeg (Int64.ofInt r) := by
  funext j
  have h0 : (0 : Int32).toNatClampNeg = 0 := by decide
  unfold vp_updL mj_u
  rw [h0]
  by_cases hj : j = 0
  · rw [if_pos ⟨rfl, hj⟩, if_pos hj]
  · rw [if_neg (fun h => hj h.2), if_neg hj]
theorem w_ret {k : Nat} {f2 f3 : mj_F} {v v3 : Option mj_V} (hk : k ≠ 0) (h : mj_ret k f2 v = some (f3, v3)) : (∃ r, v = some (.inl r) ∧ f3 = mj_u f2 k 0 r ∧ v3 = some (.inl 0)) ∨ ∃ q : Nat, v = some (.inr (.inr (.inr q))) ∧ f3 = f2 ∧ v3 = some (.inl (q : Int)) := by
  cases k with
  | zero => exact absurd rfl hk
  | succ k =>
    cases v with
    | none => change (none : Option (mj_F × Option mj_V)) = some (f3, v3) at h; cases h
    | some u =>
      rcases u with u | u | u | u
      · change some (mj_u f2 (k + 1) 0 u, (some (.inl 0) : Option mj_V)) = some (f3, v3) at h
        cases h
        exact Or.inl ⟨u, rfl, rfl, rfl⟩
      · change (none : Option (mj_F × Option mj_V)) = some (f3, v3) at h; cases h
      · change (none : Option (mj_F × Option mj_V)) = some (f3, v3) at h; cases h
      · change some (f2, (some (.inl (u : Int)) : Option mj_V)) = some (f3, v3) at h
        cases h
        exact Or.inr ⟨u, rfl, rfl, rfl⟩
set_option maxHeartbeats 4000000 in
theorem mw_met {l : Launch} {n cy k x : Nat} {a1 b1 : Int} {w w2 : mj_W} {f f2 f3 : mj_F} {v v3 : Option mj_V} (hl : l.stackTraces = false) (hcy : cy = 119 ∨ cy = 126) (hx : mj_exec n cy w f 0 (mj_pad cy [.inr (.inl x), .inl a1, .inl b1]) [] = some (w2, f2, v)) (hrt : mj_ret k f2 v = some (f3, v3)) (hk : w.1 k = (103, 1)) (hxx : w.1 x = (8, 0)) (ha : mj_rg a1) (hb : mj_rg b1) (hwf : mj_wf w) (hr : ∀ a j, mj_rg (f a j)) (G : mj_G) (b sz : Nat) :
    vx_Met l (wY cy) (wSw cy) (wR (w2.2.2.1 - w.2.2.1) (w2.2.2.2 - w.2.2.2)) (va_Pc [.ref (mj_ad b sz x), .int (Int32.ofInt a1), .int (Int32.ofInt b1), .ref (mj_ad b sz k)] (wB3 G b sz w f)) (mj_Q G b sz w2 f3 v3) (fun _ _ _ => False) (w2.2.2.1 - w.2.2.1) (w2.2.2.2 - w.2.2.2) (fun q => sz ≤ q) := by
  obtain ⟨c1, c2, c3, c4, c5, c6, c7⟩ := mx_c hcy
  have hd : w_dec cy := by
    rcases hcy with rfl | rfl
    · exact w_dec1
    · exact w_dec2
  have hT : w_tab cy := by
    rcases hcy with rfl | rfl
    · exact w_tab1
    · exact w_tab2
  obtain ⟨d0, d1, d2, d3, d4, d5, d8, d9, d10, d13, d15, d16, d17, d19, d20, d21, d22⟩ := hd
  obtain ⟨t1, t2, t3, t4, t5, t6, t7⟩ := hT
  have hm := mj_mok_all c7
  unfold mj_mok at hm
  rw [c4] at hm
  simp only [Bool.and_eq_true, decide_eq_true_eq] at hm
  obtain ⟨⟨⟨⟨⟨⟨hi1, hi2⟩, hi3⟩, hi4⟩, hi5⟩, hi6⟩, ⟨⟨⟨j1, j2⟩, j3⟩, j4⟩, j5⟩ := hm
  have hcat : ∀ v ∈ ([.inr (.inl x), .inl a1, .inl b1] : List mj_V), mj_cat v = 1 := by
    intro v hv
    simp only [List.mem_cons, List.not_mem_nil, or_false] at hv
    rcases hv with rfl | rfl | rfl <;> rfl
  have hokv : ∀ v ∈ ([.inr (.inl x), .inl a1, .inl b1] : List mj_V), mj_okv v := by
    intro v hv
    simp only [List.mem_cons, List.not_mem_nil, or_false] at hv
    rcases hv with rfl | rfl | rfl
    · exact trivial
    · exact ha
    · exact hb
  have hM := mx_met hl hcy hx hcat hokv (by show 3 ≤ _; omega) G b sz
  obtain ⟨g1, g2, g3⟩ := mj_exec_inv _ _ _ _ _ _ _ _ hx hwf hr (mj_pad_ok hokv) (fun v hv => by cases hv)
  have hlk : mj_lv w k := by unfold mj_lv; rw [hk]; omega
  have hk2 : w2.1 k = (103, 1) := (g1.2.2.2.2.2.2 k hlk).trans hk
  have hk0 : k ≠ 0 := by have := (hwf.2.1 k hlk).1; omega
  have hww : w.2.2.1 ≤ w2.2.2.1 := g1.2.2.2.2.1
  refine vx_ofWH (cc := wC cy) (maxL := 5) (ret := some .int) (hh := wH) t5 rfl ?_
  intro p e s m args below meth c s₁ B hml hpre
  obtain ⟨rfl, ⟨⟨hP, hok, hbz, hX⟩, hXP⟩, hNc⟩ := hpre
  have hts := atoms_spec (ws := wSw cy) B.pre
  have ht2 : ∀ w ∈ lw_t2, w.before _ s = true := fun w hw => hts w (List.mem_cons_of_mem _ hw)
  have hown : s.vm.findClass wL = some m.cls := by rw [← t6]; exact findClass_of_methodNamed B.named
  have hlocks := B.notSynchronized
  have hret := B.returns
  have htab : c.exceptionTable.toList = tableOf wH := vx_table (x := wY cy) B (hts _ List.mem_cons_self)
  obtain ⟨L, hP1, hD, hL, hz, -, -⟩ := id hP
  have hS0 : va_S (mj_A sz) s.heap s.heap [] := va_S.rf
  have hE : lv_has ((lg_sl [.ref (mj_ad b sz x), .int (Int32.ofInt a1), .int (Int32.ofInt b1), .ref (mj_ad b sz k)] ++ List.replicate (5 - (lg_sl [.ref (mj_ad b sz x), .int (Int32.ofInt a1), .int (Int32.ofInt b1), .ref (mj_ad b sz k)]).length) Slot.unset).toArray) 5 [(0, .ref (mj_ad b sz x)), (1, .int (Int32.ofInt a1)), (2, .int (Int32.ofInt b1)), (3, .ref (mj_ad b sz k))] := lv_entry _ (by show (4 : Nat) ≤ 5; decide)
  rw [lg_entry_eq]
  revert hE
  generalize (lg_sl [.ref (mj_ad b sz x), .int (Int32.ofInt a1), .int (Int32.ofInt b1), .ref (mj_ad b sz k)] ++ List.replicate (5 - (lg_sl [.ref (mj_ad b sz x), .int (Int32.ofInt a1), .int (Int32.ofInt b1), .ref (mj_ad b sz k)]).length) Slot.unset).toArray = lsA
  intro hE
  have l0 := hE.2.2 (0, .ref (mj_ad b sz x)) (by simp)
  have l1 := hE.2.2 (1, .int (Int32.ofInt a1)) (by simp)
  have l2 := hE.2.2 (2, .int (Int32.ofInt b1)) (by simp)
  have l3 := hE.2.2 (3, .ref (mj_ad b sz k)) (by simp)
  refine lv_aload_n (k := 3) (i := 3) (x := mj_ad b sz k) B.exec B.bytes d0 rfl l3 ?_
  refine lv_iconst (n := 0) (v := 0) B.exec B.bytes d1 rfl ?_
  refine lv_aload_n (k := 0) (i := 0) (x := mj_ad b sz x) B.exec B.bytes d2 rfl l0 ?_
  refine lv_iload_n (k := 1) (i := 1) (x := Int32.ofInt a1) B.exec B.bytes d3 rfl l1 ?_
  refine lv_iload_n (k := 2) (i := 2) (x := Int32.ofInt b1) B.exec B.bytes d4 rfl l2 ?_
  have hrecv : ∃ cell : Cell, s.heap[mj_ad b sz x]? = some cell ∧ cell.vm.isStatics = false ∧ s.vm.findClass (mj_nm cy).cls = some cell.cls := by
    cases hcl : mj_cl[mj_cn cy]? with
    | none => rw [hcl] at j5; cases j5
    | some rr =>
      rw [hcl] at j5
      have hrr : rr.1 = (mj_nm cy).cls := Option.some.inj j5
      obtain ⟨CC, T, N⟩ := rr
      obtain ⟨-, hcn⟩ := mj_cl_nf hcl
      have hwa : w.1 x = (mj_cn cy, 0) := by rw [c2]; exact hxx
      obtain ⟨-, -, -, -, q0, hq0⟩ := mj_P_at (G := G) (b := b) (f := f) hL hwf (mj_lv_of hwa hcn)
      rw [mj_E_obj hwa hcn] at hq0
      have hrecv := va_recv hok.1 hP1 hcl hq0
      rw [hrr] at hrecv
      exact hrecv
  have hpre : ∀ U : State, U.heap = s.heap → s.WarmedH U.vm → va_Pc (([.inr (.inl x), .inl a1, .inl b1] : List mj_V).map (mj_val b sz)) (mx_B G b sz w f) (Value.ref (mj_ad b sz x) :: [.int (Int32.ofInt a1), .int (Int32.ofInt b1)]).toArray U := by
    intro U hU hW
    refine ⟨rfl, ⟨?_, hok.warm hW, hbz, fun q => ?_⟩, XP.go hW (fun q _ _ => by rw [hU]) hXP⟩
    · rw [hU]
      exact hP
    · refine va_X.moved hW.alike ((hX q).kept ?_)
      rw [hU]
  have hfit : 0 + (w2.2.2.1 - w.2.2.1) ≤ (headSpec (wSw cy) (wR (w2.2.2.1 - w.2.2.1) (w2.2.2.2 - w.2.2.2))).room.cells ∧ 0 + (w2.2.2.2 - w.2.2.2) ≤ (headSpec (wSw cy) (wR (w2.2.2.1 - w.2.2.1) (w2.2.2.2 - w.2.2.2))).room.slots := ⟨Nat.le_of_eq (Nat.zero_add _), Nat.le_of_eq (Nat.zero_add _)⟩
  have hR2 : (mx_rm (w2.2.2.1 - w.2.2.1) (w2.2.2.2 - w.2.2.2)).frames + 1 ≤ (headSpec (wSw cy) (wR (w2.2.2.1 - w.2.2.1) (w2.2.2.2 - w.2.2.2))).room.frames ∧ 8 + (mj_nL cy + 11) + (mx_rm (w2.2.2.1 - w.2.2.1) (w2.2.2.2 - w.2.2.2)).locals ≤ (headSpec (wSw cy) (wR (w2.2.2.1 - w.2.2.1) (w2.2.2.2 - w.2.2.2))).room.locals := by
    show 20 + 1 ≤ 30 ∧ 8 + (mj_nL cy + 11) + 2000 ≤ 3000
    omega
  refine mx_go (G := G) (b := b) (sz := sz) (w' := w2) (f' := f2) (v := v) (Z := ∀ k, v ≠ some (.inr (.inr (.inr k)))) (vx_runV (C := (mj_nm cy).cls) (b := mj_ad b sz x) (As := [.int (Int32.ofInt a1), .int (Int32.ofInt b1)]) (rest := [.int 0, .ref (mj_ad b sz k)]) ⟨B.exec, B.bytes, hml, hown, ht2⟩ hM ⟨callB_of (mj_ar cy - 1) ht2 (mj_good_ws c7) rfl rfl rfl (ht2 _ (mj_t2 hi1 rfl)) (ht2 _ t2) ⟨hi3, hi4, j3⟩ hR2, ht2 _ (mj_t2 j1 rfl), ht2 _ (mj_t2 j2 rfl)⟩ ⟨mx_B_blind, hrecv, hpre⟩ rfl (by rw [c5]; rfl) hE.1 rfl (by show 2 * 0 + (1 + (1 + 0)) ≤ 8; decide) d5 hfit) (fun st oc t h => h) hS0 (fun q h => h) ?_ ?_
  · intro hv H1 locs1 hPa hSa
    rcases w_ret hk0 hrt with ⟨r, rfl, rfl, rfl⟩ | ⟨q, rfl, -, -⟩
    · rw [Nat.zero_add, Nat.zero_add]
      have hrr : mj_rg r := g2 _ rfl
      obtain ⟨L2, hPb, hDb, hLb, hzb, hwfb, hrb⟩ := id hPa
      have hlk2 : mj_lv w2 k := by unfold mj_lv; rw [hk2]; omega
      obtain ⟨-, -, -, -, q0, hq0⟩ := mj_P_at (G := G) (b := b) (f := f2) hLb hwfb hlk2
      have hq1 := hq0
      have h103 : (w2.1 k).1 = 103 := by rw [hk2]
      rw [mj_E_103 h103] at hq1
      refine lv_i2l (x := Int32.ofInt r) (v := Int64.ofInt r) B.exec B.bytes d8 (mj_i2l hrr) ?_
      refine va_last B.exec B.bytes hok.1 hPb hDb (mj_S_here hSa) q0 3 hq1 rfl (vp_in_iff.mpr ⟨by decide, by rw [hk2]; decide⟩) d9 (fun H2 locs2 hP2 hD2 hS2 => mj_Wsize fun hup => ?_)
      have hS3 : va_S (mj_A sz) s.heap H2 locs2 := ⟨Nat.le_trans hSa.1 hS2.1, fun q h1 h2 => (hS2.2.1 q (Nat.lt_of_lt_of_le h1 hSa.1) h2).trans (hSa.2.1 q h1 h2), hS2.2.2⟩
      have hsz : H2.size + 2 = sz + w2.2.2.1 := by
        have := hS2.1
        omega
      have hP3 : mj_P G b sz w2 (mj_u f2 k 0 r) H2 := mj_P.write hDb hLb hwfb hlk2 hq0 (by rw [mj_E_103 h103, w_upd]) rfl (fun _ _ => rfl) (fun x hx => mj_u_ne hx) rfl hsz (mj_u_rg hrb hrr) hP2 hD2
      refine lv_goto (tgt := 21) B.exec B.bytes d10 rfl ?_
      refine lv_iconst (n := 0) (v := 0) B.exec B.bytes d21 rfl ?_
      exact vx_ret (W.iret B.exec B.bytes hret (fun t ht _ => ⟨rfl, by rw [ht]; exact hP3, hS3.F ht⟩) hS3.2.2 d22 hlocks)
    · exact absurd rfl (hv q)
  · intro E st t q ce Lc hxc h0 hce hcv hcl hLf
    obtain ⟨kx, hk12, hv, hEe, hPa, hF⟩ := hxc
    subst hEe
    have hSa : va_S (mj_A sz) s.heap t.heap ([] ++ Lc) := ⟨by rw [← h0]; exact hF.1, fun q h1 h2 => by rw [← h0]; exact hF.2 q (by rw [h0]; exact h1) h2, hLf⟩
    rcases w_ret hk0 hrt with ⟨r, hv2, -, -⟩ | ⟨q2, hv2, rfl, rfl⟩
    · rw [hv] at hv2
      cases hv2
    · rw [hv] at hv2
      cases hv2
      rw [Nat.zero_add, Nat.zero_add]
      rcases hk12 with rfl | rfl
      · refine vx_catch (own := wL) (name := xN 1) hown [] ⟨0, 10, 13, 13⟩ [⟨0, 10, 17, 15⟩] htab (fun z hz => nomatch hz) rfl (by decide) (ht2 _ w_l13) (va_Nw.use rfl (hXP.2.2.2 _ (by simp [xD]))) hce hcv hcl ?_
        refine lv_astore (i := 4) (nL := 5) B.exec B.bytes d13 hE (by decide) rfl (fun lsB hB => ?_)
        refine lv_iconst (n := 1) (v := 1) B.exec B.bytes d15 rfl ?_
        exact vx_ret (W.iret B.exec B.bytes hret (fun t' ht _ => ⟨rfl, by rw [ht]; exact hPa, hSa.F ht⟩) hSa.2.2 d16 hlocks)
      · refine vx_catch (own := wL) (name := xN 2) hown [⟨0, 10, 13, 13⟩] ⟨0, 10, 17, 15⟩ [] htab (fun z hz => ?_) rfl (by decide) (ht2 _ w_l15) (va_Nw.use rfl (hXP.2.2.2 _ (by simp [xD]))) hce hcv hcl ?_
        · cases List.mem_singleton.mp hz
          exact Or.inr ⟨by decide, xN 1, ht2 _ w_l13, hNc⟩
        refine lv_astore (i := 4) (nL := 5) B.exec B.bytes d17 hE (by decide) rfl (fun lsB hB => ?_)
        refine lv_iconst (n := 2) (v := 2) B.exec B.bytes d19 rfl ?_
        exact vx_ret (W.iret B.exec B.bytes hret (fun t' ht _ => ⟨rfl, by rw [ht]; exact hPa, hSa.F ht⟩) hSa.2.2 d20 hlocks)
