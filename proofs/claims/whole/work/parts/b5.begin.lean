/-! THE CLAIM OUT OF ONE WALK OF THE LAW'S BODY. Your part is whole_start (and what it stands on); all else here is the same for every law, but numbers. -/
def R_law : String := "ClockZonesLaw"
def lw_P (b : Addr) (xs : List Int32) (args : Array Value) (s : State) : Prop := args = #[.ref b] ∧ s.IntsAt b xs ∧ xs.length ≤ 3072 ∧ (Jvm.Cond.and given_1 narrow_1).before args s = true
def lw_Q (_ : Array Value) (s : State) (o : Outcome) (t : State) : Prop := o = .returned (some (.int 1)) ∧ Framed s o t [] 601024 7293034
def lw_Z (below : List Frame) (a : Array Value) (s : State) : State → Prop := fun t => ∃ o, t.status = .running ∧ Ended t below o ∧ lw_Q a s o t
/-- the law's own end, with 1 on the stack, nothing written that was there before, its room as the claim has it -/
theorem lw_ret {p : Program} {l : Launch} {e : Env} {s : State} {m : MethodId} {below : List Frame} {meth : Method} {c : Code} {b : Nat} (hx : p.tables.exec = Jvm.exec) (hb : c.code = code) (hr : meth.sig.returnType = ret) (hlocks : meth.locks = false) {pc : Nat} {H : Heap} {ls : Array Slot} (hdg : decode code pc = .ok (.ireturn, 1)) : W p l e room_1 s m #[Value.ref b] below meth c H [] 601024 7293034 (lw_Z below #[Value.ref b] s) (F0 m pc ls [.int 1]) := by
  intro T hT X
  obtain ⟨fs, hret, hrun, hended, hW, hframe⟩ := X.leave (v := some (.int 1)) (hlocks := hlocks) (fun h => by rw [hr] at h; cases h)
  have hmeth' : T.vm.method? m = some meth := X.method'
  refine ⟨T.setFrames fs, ?_, .returned (some (.int 1)), hrun, hended, rfl, ⟨_, rfl⟩, hW, hframe⟩
  jvm_step X.here [X.here.top, hx, hb, hdg, hmeth', hr, ret, narrow_b1]
  (try refine ⟨rfl, ?_⟩); (try refine ⟨rfl, ?_⟩)
  first | (intro acts; rw [hret _ acts rfl rfl rfl]) | rw [hret _ _ rfl rfl rfl]
  exact Steps.refl _
/-- what holds at the law's entry: the machine, the code, the tables' words (any of lw_tbl by 'hts w (by decide +kernel)'), the script of L ints xs at the cell b, what the Statement gives of the start (any of its parts by flat_of_before) -/
def lw_At (p : Program) (s : State) (m : MethodId) (meth : Method) (c : Code) (b L : Nat) (xs : Nat → Int32) : Prop :=
  p.tables.exec = Jvm.exec ∧ c.code = code ∧ meth.sig.returnType = ret ∧ c.maxLocals = 7 ∧ s.vm.findClass R_law = some m.cls ∧ (∀ w ∈ lw_tbl, w.before #[Value.ref b] s = true) ∧ va_X b L xs s s.heap ∧ b < s.heap.size ∧ meth.locks = false ∧ (Jvm.Cond.and given_1 narrow_1).before #[Value.ref b] s = true
section STA
variable {s : State} {args : Array Value}
theorem st_ins : (mj_cl.all fun q => decide (Cond.instantiable q.1 q.2.2 ∈ lw_tbl)) = true := by decide +kernel
/-- what the tables say, as our world wants it -/
theorem st_K (hts : ∀ w ∈ lw_tbl, w.before args s = true) : ∃ G : mj_G, mj_Ok G s := by
  have hch : ∀ ci : Nat, ∃ d : ClassId × (Nat → Nat), ∀ q, mj_cl[ci]? = some q → u_Kn s q.1 q.2.1 q.2.2 d.1 d.2 := by
    intro ci
    cases h : mj_cl[ci]? with
    | none => exact ⟨(0, fun _ => 0), fun q hq => by cases hq⟩
    | some q =>
      obtain ⟨C, T, N⟩ := q
      obtain ⟨cC, iS, h1⟩ := u_known (n := N) hts (fun w hw => (List.mem_filter.mp (mj_hin h w hw)).1) (hts _ (of_decide_eq_true (List.all_eq_true.mp st_ins _ (List.mem_of_getElem? h))))
      exact ⟨(cC, iS), fun q' hq' => by cases hq'; exact h1⟩
  obtain ⟨d, hd⟩ := Classical.axiomOfChoice hch
  obtain ⟨c0, k0, m0, f0, g0, i0⟩ := Cond.arrayClass_spec (hts (.arrayClass .int) (by decide +kernel))
  obtain ⟨c1, k1, m1, f1, g1, i1⟩ := Cond.arrayClass_spec (hts (.arrayClass .byte) (by decide +kernel))
  obtain ⟨c3, k3, m3, f3, g3, i3⟩ := Cond.arrayClass_spec (hts (.arrayClass .long) (by decide +kernel))
  have hao := hts (.arrayOver (.object mj_zn)) (by decide +kernel)
  obtain ⟨comp, c2, k2, f2, -, g2, i2, j2⟩ := Cond.arrayOver_spec hao
  refine ⟨((fun ci => (d ci).1, fun ci => (d ci).2), fun t => if t = 0 then c0 else if t = 1 then c1 else if t = 2 then c2 else c3), ⟨fun ci q h => hd ci q h, fun k q hk => ?_⟩, va_AO.of hao, fun w hw hn => va_Nw.of (by cases w <;> first | rfl | (simp [mj_nst] at hn)) (hts w hw)⟩
  match k, hk with
  | 0, hk => cases hk; exact ⟨fun n z => ⟨fun k h => (by cases h), k0, g0, m0, i0⟩, f0⟩
  | 1, hk => cases hk; exact ⟨fun n z => ⟨fun k h => (by cases h), k1, g1, m1, i1⟩, f1⟩
  | 2, hk => cases hk; exact ⟨fun n z => ⟨fun k h => (by cases h), k2, g2, comp, i2⟩, k2, comp, g2, i2, f2, j2⟩
  | 3, hk => cases hk; exact ⟨fun n z => ⟨fun k h => (by cases h), k3, g3, m3, i3⟩, f3⟩
  | k + 4, hk => cases hk
theorem st_XP (hts : ∀ w ∈ lw_tbl, w.before args s = true) (hgv : (Jvm.Cond.and given_1 narrow_1).before args s = true) : XP s.heap.size s ∧ va_Nc (xN 2) (xN 1) s := by
  have hs := flat_of_before _ hgv
  obtain ⟨cc, kk, hcc, -⟩ := Cond.instantiable_spec (hts (.instantiable "ClockZones" 11) (by decide +kernel))
  refine ⟨⟨fun i hi => ?_, vx_Zqof (hts _ (by decide +kernel)) (hts _ (by decide +kernel)) (hs _ (by decide +kernel)) (fun a ha h => Nat.not_lt.mpr h ha), vx_Zqof (hts _ (by decide +kernel)) (hts _ (by decide +kernel)) (hs _ (by decide +kernel)) (fun a ha h => Nat.not_lt.mpr h ha), fun w hw => ?_⟩, va_Nc.of (hs _ (by decide +kernel))⟩
  · rcases hi with rfl | rfl | rfl
    · have h1 := hts (.stringRef "ClockZones" 112 "no such place") (by decide +kernel)
      obtain ⟨k, cf, i', a, -, -, -, -, -, hev⟩ := Cond.stringRef_spec hcc h1
      exact ⟨a, vk_R.of h1 hev⟩
    · have h1 := hts (.stringRef "ClockZones" 138 "no such what") (by decide +kernel)
      obtain ⟨k, cf, i', a, -, -, -, -, -, hev⟩ := Cond.stringRef_spec hcc h1
      exact ⟨a, vk_R.of h1 hev⟩
    · have h1 := hts (.stringRef "ClockZones" 144 "no such edge") (by decide +kernel)
      obtain ⟨k, cf, i', a, -, -, -, -, -, hev⟩ := Cond.stringRef_spec hcc h1
      exact ⟨a, vk_R.of h1 hev⟩
  · have h1 := List.all_eq_true.mp xD_ok w hw
    rw [Bool.and_eq_true, decide_eq_true_eq] at h1
    exact va_Nw.of h1.1 (hts w h1.2)
end STA
theorem st_314 : mj_nL 314 = 7 ∧ mj_isInit 314 = false ∧ mj_lev 314 + 1 ≤ 2048 ∧ 100 * (mj_lev 314 + 1) ≤ 84000 := ⟨by decide +kernel, by decide +kernel, by decide +kernel, by decide +kernel⟩
theorem st_code : mj_code 314 = code := rfl
/-- the whole law, from its entry -/
theorem whole_start {p : Program} {e : Env} {s : State} {m : MethodId} {below : List Frame} {meth : Method} {c : Code} (l : Launch) (hflags : l.flags = flags0) {b L : Nat} {xs : Nat → Int32} (hL : L ≤ 3072) (C0 : lw_At p s m meth c b L xs) : W p l e room_1 s m #[Value.ref b] below meth c s.heap [] 0 0 (lw_Z below #[Value.ref b] s) (entryFrame m ([Value.ref b] : List Value).toArray 7) := by
  obtain ⟨hx, hb, hret, hml, hown, hts, hX, hbl, hlocks, hgv⟩ := C0
  have hl : l.stackTraces = false := by unfold Launch.stackTraces; rw [hflags]; decide +kernel
  obtain ⟨G, hok⟩ := st_K hts
  obtain ⟨hXP, hNc⟩ := st_XP hts hgv
  obtain ⟨n, W', F, hex, hc1, hc2⟩ := law_true (L := L) (xs := fun j => (xs j).toInt) hL (fun j => mj_rg_to (xs j))
  obtain ⟨n7, nI, lv1, lv2⟩ := st_314
  obtain ⟨lsA, he, hls⟩ := mj_entry (b := b) (sz := s.heap.size) (y := 314) (as := [.inr (.inl 1)]) (fun v hv => by rw [List.mem_singleton.mp hv]; rfl) (fun v hv => by rw [List.mem_singleton.mp hv]; exact trivial) (by rw [n7]; decide) m
  rw [n7] at he
  have he' : entryFrame m ([Value.ref b] : List Value).toArray 7 = F0 m 0 lsA [] := he
  rw [he']
  have hC : mj_C p s m #[Value.ref b] meth c G 314 := ⟨hx, hb.trans st_code.symm, hml.trans n7.symm, by rw [l8_own]; exact hown, fun w hw => hts w (List.mem_filter.mp hw).1, fun h => (by rw [nI] at h; cases h), hok⟩
  have hfr : ∀ a j, mj_rg (f0 (fun j => (xs j).toInt) a j) := by
    intro a j
    unfold f0
    split
    · exact mj_rg_to _
    · exact mj_rg0
  have hwf : mj_wf (wCn L 2 0 []) := wCn_wf (by decide) (by decide)
  have hP : mj_P G b s.heap.size (wCn L 2 0 []) (f0 (fun j => (xs j).toInt)) s.heap := ⟨[], (fun k q h => by cases h), ⟨(fun i j p q h => by cases h), (fun k q h => by cases h)⟩, (fun a ha => by have := hwf.2.1 a ha; have h2 : a < 2 := this.2; omega), rfl, hwf, hfr⟩
  have hX' : (((wCn L 2 0 []).1 1).1 = 104 → va_X b ((wCn L 2 0 []).1 1).2 (fun j => Int32.ofInt (f0 (fun j => (xs j).toInt) 1 j)) s s.heap) := by
    intro _
    have e1 : (fun j => Int32.ofInt (f0 (fun j => (xs j).toInt) 1 j)) = xs := by
      funext j
      show Int32.ofInt (xs j).toInt = xs j
      exact mj_ofto _
    rw [e1]
    exact hX
  have hI : mj_I s G b s.heap.size 2 0 314 (wCn L 2 0 []) (f0 (fun j => (xs j).toInt)) (mj_pad 314 [.inr (.inl 1)]) [] s.heap [] lsA := ⟨hP, va_S.rf, hls, (fun v hv => by cases hv), ⟨rfl, Nat.le_refl _⟩, hbl, hX', Nat.le_refl _, Nat.le_refl _⟩
  have key := mj_simx l n 314 (wCn L 2 0 []) (f0 (fun j => (xs j).toInt)) 0 (mj_pad 314 [.inr (.inl 1)]) [] _ hex (R := room_1) (below := below) (Q := lw_Z below #[Value.ref b] s) (p := p) (e := e) hC hI lv1 lv2 (by show W'.2.2.1 - 2 ≤ 601024; omega) (by show W'.2.2.2 - 0 ≤ 7293034; omega) ?_ (law_8K hl hC hXP hNc (by decide) (by decide))
  · exact key
  · intro w1 f1 pc1 ls1 st1 i w2 v H1 locs1 lsA1 hd hend hreq I1
    have hq : (W', F, (some (.inl 1) : Option mj_V)) = (w2, f1, v) := hreq
    cases hq
    unfold mj_end at hend
    split at hend
    · split at hend
      · split at hend
        · cases hend
          have hdg : decode code pc1 = .ok (.ireturn, 1) := by rw [← st_code]; exact mj_dec_ok hd rfl (by decide)
          unfold mj_Wg
          refine va_forget (fun q hq => I1.2.1.2.2 q hq) ?_
          refine W.widen (k := 601024) (n := 7293034) (by omega) (by omega) ?_
          exact lw_ret hx hb hret hlocks hdg
        · cases hend
      · cases hend
    · split at hend
      · split at hend
        · cases hend
        · cases hend
      · cases hend
    · split at hend
      · split at hend
        · cases hend
        · cases hend
      · cases hend
    · split at hend
      · cases hend
      · cases hend
    · cases hend
