/-! place() and edge() of the class: they return, or throw. -/
/-- the words of a throw whose class calls its superclass's constructor by the index ix -/
def mt_at (own : String) (ic : Nat) (X : String) (ix : Nat) (rx : ByteArray) (Y : String) (r : List String) : List Cond := Bundle.throwableAtoms ++ Bundle.throwableSAtoms ++ Bundle.passSAtoms X Y ix rx ++ Bundle.chainSAtoms Y r ++
  [.methodLink own ic (Bundle.initS X), .instantiable X 6, .castable X X, .selects X Bundle.tFill0 Bundle.tFill0, .selects X Bundle.tFill Bundle.tFill,
   .lays X Bundle.tN "cause" "Ljava/lang/Throwable;", .lays X Bundle.tN "stackTrace" Bundle.steD, .lays X Bundle.tN "suppressedExceptions" Bundle.listD, .lays X Bundle.tN "detailMessage" "Ljava/lang/String;",
   .isRef (.static Bundle.tN "UNASSIGNED_STACK" Bundle.steD), .isRef (.static Bundle.tN "SUPPRESSED_SENTINEL" Bundle.listD),
   .fieldLink Bundle.tN 198 Bundle.tN "backtrace" "Ljava/lang/Object;", .lays Bundle.tN Bundle.tN "backtrace" "Ljava/lang/Object;", .lays X Bundle.tN "backtrace" "Ljava/lang/Object;"]
section MTC
variable {p : Program} {l : Launch} {e : Env} {R : Room} {s : State} {m₀ : MethodId} {args : Array Value} {below : List Frame} {meth : Method} {c : Code} {W : State} {locs : List Loc} {cells slots : Nat}
theorem mt_chain {pl : Platform} (hpl : pl.magicAccessors = ({} : Platform).magicAccessors) {top : MethodId} (htop : s.methodNamed? (Bundle.initS Bundle.tN) = some top) {ix : Nat} {rx : ByteArray}
    (x0 : decode rx 0 = .ok (.aload_n 0, 1)) (x1 : decode rx 1 = .ok (.aload_n 1, 1)) (x2 : decode rx 2 = .ok (.invokespecial ix, 3)) (x5 : decode rx 5 = .ok (.return_, 1)) {X Y : String} {r : List String} (hX : Bundle.fit X = true) (hY : Bundle.fit Y = true) (hr : ∀ n ∈ r, Bundle.fit n = true)
    (h1 : ∀ c ∈ Bundle.passSAtoms X Y ix rx, c.before args s = true) (h2 : ∀ c ∈ Bundle.chainSAtoms Y r, c.before args s = true) :
    ∃ (P1 : PassC) (Ps : List PassC), Ps.length = r.length + 1 ∧ P1.LinksS pl s ∧ (∀ P, P ∈ Ps → P.LinksS pl s) ∧ s.methodNamed? (Bundle.initS X) = some P1.m ∧ P1.sup = firstOf top (Ps.map (·.toPassT)) ∧ PassesOn top (Ps.map (·.toPassT)) := by
  obtain ⟨P, L, hm, hs⟩ := PassC.ofS_atoms (args := args) (s := s) hpl (X := X) (Y := Y) (Bundle.fit_spec hX).1 (Bundle.fit_spec hY).2 x0 x1 x2 x5 h1
  obtain ⟨P', Ps, hlen, L', hL, hm', hsup, hpass⟩ := Bundle.chainS (args := args) hpl htop r Y hY hr h2
  refine ⟨P, P' :: Ps, by simp [hlen], L, ?_, hm, Option.some.inj (hs.symm.trans hm'), hsup, hpass⟩
  intro Q hQ
  rcases List.mem_cons.mp hQ with rfl | hQ
  · exact L'
  · exact hL Q hQ
set_option maxHeartbeats 4000000 in
/-- (after the library's ctorThrowS) the constructor runs and the throw leaves; what is told of the cell is its class -/
theorem mt_ctor (X : Stand p l e R s m₀ args below meth c W locs cells slots) (hexec : p.tables.exec = Jvm.exec) (htr : e.platform.stackTraces = false) {own cls Y : String} {r : List String} {ic ix : Nat} {rx : ByteArray}
    (x0 : decode rx 0 = .ok (.aload_n 0, 1)) (x1 : decode rx 1 = .ok (.aload_n 1, 1)) (x2 : decode rx 2 = .ok (.invokespecial ix, 3)) (x5 : decode rx 5 = .ok (.return_, 1))
    (hown : s.vm.findClass own = some m₀.cls) (hcls : Bundle.fit cls = true) (hY : Bundle.fit Y = true) (hr : ∀ n ∈ r, Bundle.fit n = true) (h : ∀ a ∈ mt_at own ic cls ix rx Y r, a.before args s = true)
    (hlocs : ∀ x ∈ locs, ∀ cell, s.heap[x.base]? = some cell → cell.vm.isStatics = false)
    {a : Addr} {cX : ClassId} {kX : Class} (hfoundX : s.vm.findClass cls = some cX) (hkX : s.vm.classes[cX]? = some kX) (hcell : W.heap[a]? = some (freshCell cX kX)) (hnew : s.heap.size ≤ a)
    {msg : Value} (hmsg : msg.isRef = true)
    {g : JFrame} (hg : g.method = m₀) (hsize : g.locals.size = c.maxLocals) (hlocked : g.locked = none) (hentered : g.entered = []) {rest : List Value} (hstack : g.stack = msg :: .ref a :: .ref a :: rest)
    (hd6 : decode c.code g.pc = .ok (.invokespecial ic, 3)) (hd9 : decode c.code (g.pc + 3) = .ok (.athrow, 1)) (hout : ∀ x ∈ c.exceptionTable.toList, covers x (g.pc + 3) = false)
    (hRframes : r.length + 1 + 3 < R.frames) (hRlocals : 2 * g.monitorRoom + ((Value.ref a :: rest).map fun v => v.category).sum + (13 * (r.length + 1 + 1) + 42) ≤ R.locals) (hlocks : meth.locks = false) :
    ∃ U : State, Steps p.tables e below (W.setTop g) U ∧ U.status = .running ∧ Ended U below (.threw a) ∧ s.WarmedH U.vm ∧ s.sameButNew ({ U with vm := s.vm } : State) locs cells slots ∧
      ∃ ce : Cell, U.heap[a]? = some ce ∧ ce.vm = .none ∧ s.vm.findClass cls = some ce.cls := by
  have howns : e.platform.frameOwnsMonitors = true := by rw [X.admits.platform]
  have hfin : e.platform.finalization = false := by rw [X.admits.platform]
  have hpl : e.platform.magicAccessors = ({} : Platform).magicAccessors := by rw [X.admits.platform]
  have a' : ∀ x, x ∈ mt_at own ic cls ix rx Y r → x.holds args s none s [] = true := fun x hx => h x hx
  obtain ⟨T, Z0, L, -, Y1⟩ := ThrowableC.of_atoms (args := args) howns hfin hpl (fun x hx => h x (by simp [mt_at, hx]))
  obtain ⟨Z, M, LZ, LM, hnZ⟩ := Init0T.ofS_atoms (args := args) hpl L Y1 (fun x hx => h x (by simp [mt_at, hx]))
  obtain ⟨P1, Ps, hlen, L1, hL, hP1m, hlink1, hlink⟩ := mt_chain (args := args) hpl hnZ x0 x1 x2 x5 hcls hY hr (fun x hx => h x (by simp [mt_at, hx])) (fun x hx => h x (by simp [mt_at, hx]))
  have hfound : s.vm.findClass cls = some P1.m.cls := findClass_of_methodNamed hP1m
  cases Option.some.inj (hfoundX.symm.trans hfound)
  obtain ⟨c1, kX', hc1, hk, hord, -, -, hn6⟩ := Cond.instantiable_spec (a' (.instantiable cls 6) (by simp [mt_at]))
  cases Option.some.inj (hc1.symm.trans hfound)
  cases Option.some.inj (hkX.symm.trans hk)
  have hsel0 : selectMethod e.platform s.vm P1.m.cls T.fill0 = .method T.fill0 := by
    obtain ⟨c2, r2, m2, q1, q2, q3, q4, -⟩ := Cond.selects_spec (a' (.selects cls Bundle.tFill0 Bundle.tFill0) (by simp [mt_at]))
    cases Option.some.inj (q1.symm.trans hfound)
    cases Option.some.inj (q2.symm.trans (State.methodFound?_of_named Y1.fill0 (by decide)))
    cases Option.some.inj (q3.symm.trans Y1.fill0)
    rw [Launch.admits_selectMethod X.admits]; exact q4
  have hselF : selectMethod e.platform s.vm P1.m.cls T.fill = .method T.fill := by
    obtain ⟨c2, r2, m2, q1, q2, q3, q4, -⟩ := Cond.selects_spec (a' (.selects cls Bundle.tFill Bundle.tFill) (by simp [mt_at]))
    cases Option.some.inj (q1.symm.trans hfound)
    cases Option.some.inj (q2.symm.trans (State.methodFound?_of_named Y1.fill (by decide)))
    cases Option.some.inj (q3.symm.trans Y1.fill)
    rw [Launch.admits_selectMethod X.admits]; exact q4
  obtain ⟨cellS0, hcS0, hiss⟩ := Y1.statics
  obtain ⟨u0, hu0⟩ := Cond.staticRefV Y1.unassigned L.unassignedStatic L.statics hcS0 hiss (a' (.isRef (.static Bundle.tN "UNASSIGNED_STACK" Bundle.steD)) (by simp [mt_at]))
  obtain ⟨sen, hsen⟩ := Cond.staticRefV Y1.sentinel L.sentinelStatic L.statics hcS0 hiss (a' (.isRef (.static Bundle.tN "SUPPRESSED_SENTINEL" Bundle.listD)) (by simp [mt_at]))
  obtain ⟨ci198, i198, fB, hk198, hg198, ha198, hsB, -, hnB, htB, hffB⟩ := Cond.ownField (t := .object "java/lang/Object") Y1.found L.cls (by decide +kernel) (a' (.fieldLink Bundle.tN 198 Bundle.tN "backtrace" "Ljava/lang/Object;") (by simp [mt_at])) (a' (.lays Bundle.tN Bundle.tN "backtrace" "Ljava/lang/Object;") (by simp [mt_at])) e.platform hpl
  obtain ⟨cellS, hcS', heS, -, hkeep⟩ := X.same.2.2.2.2.2 T.aS cellS0 hcS0
  have hcellS : W.heap[T.aS]? = some cellS := hcS'
  have hout' : ∀ i, (⟨T.aS, i⟩ : Loc) ∉ locs := fun i hmem => by
    have := hlocs _ hmem cellS0 hcS0
    rw [hiss] at this; cases this
  have hknownS : cellS.vm ≠ .unknown := by
    rw [heS]; intro hu
    rw [show cellS0.vm = .unknown from hu] at hiss
    cases hiss
  have hneS : T.aS ≠ a := Nat.ne_of_lt (Nat.lt_of_lt_of_le (Array.getElem?_eq_some_iff.mp hcS0).1 hnew)
  obtain ⟨iM, hffM⟩ := Y1.msg
  obtain ⟨tyC, dC, hdC, hdnC⟩ := Cond.laysAt hfound hk Y1.cause (a' (.lays cls Bundle.tN "cause" "Ljava/lang/Throwable;") (by simp [mt_at]))
  obtain ⟨tyS, dS, hdS, hdnS⟩ := Cond.laysAt hfound hk Y1.stack (a' (.lays cls Bundle.tN "stackTrace" Bundle.steD) (by simp [mt_at]))
  obtain ⟨tyP, dP, hdP, hdnP⟩ := Cond.laysAt hfound hk Y1.supp (a' (.lays cls Bundle.tN "suppressedExceptions" Bundle.listD) (by simp [mt_at]))
  obtain ⟨tyM, dM, hdM, hdnM⟩ := Cond.laysAt hfound hk hffM (a' (.lays cls Bundle.tN "detailMessage" "Ljava/lang/String;") (by simp [mt_at]))
  obtain ⟨tyB, dB, hdB, hdnB⟩ := Cond.laysAt hfound hk hffB (a' (.lays cls Bundle.tN "backtrace" "Ljava/lang/Object;") (by simp [mt_at]))
  have bC := Cond.laysApart hdB hdC hdnB hdnC (by rw [hnB, Y1.causeName]; decide)
  have bS := Cond.laysApart hdB hdS hdnB hdnS (by rw [hnB, Y1.stackName]; decide)
  have bP := Cond.laysApart hdB hdP hdnB hdnP (by rw [hnB, Y1.suppName]; decide)
  have hskip : SkipFacts T e.platform s (fun u => u) u0 ((preparedCellV T.toThrowableT (freshCell P1.m.cls kX) a u0 sen).withEntry W.cur) :=
    ⟨{ ci198 := ci198, i198 := i198, fBack := fB }, ⟨hk198, hg198, ha198, hsB⟩, by
      have := fresh_default (c := P1.m.cls) tyB
      rw [htB] at this
      simpa [preparedCellV, Cell.setSlot, Cell.withEntry, Array.getElem?_setIfInBounds, bC, bS, bP, bC.symm, bS.symm, bP.symm, defaultValue] using this, fun _ _ => rfl⟩
  obtain ⟨tm, methC, cdC, kC, vm₁, hnC, -, -, -, -, -, -, -, hW₁, st1⟩ := Steps.initColdS (tb := p.tables) (e := e) (below := below) (s := s) (U := W) X.here hexec X.warmed hpl hown (t := Bundle.initS cls) rfl rfl (Bundle.fit_spec hcls).2
    (a' (.methodLink own ic (Bundle.initS cls)) (by simp [mt_at])) (h (.instanceMethod (Bundle.initS cls)) (by simp [mt_at, Bundle.passSAtoms])) (bytes := rx) (maxL := 2) (h (.code (Bundle.initS cls) rx 2 none) (by simp [mt_at, Bundle.passSAtoms]))
    (f := g) hg (a := a) (msg := msg) (rest := .ref a :: rest) hstack hd6
  cases Option.some.inj (hnC.symm.trans hP1m)
  have X₁ := X.noted hW₁
  obtain ⟨vm₂, X₂, st2⟩ := X₁.ctorMessageOffV hexec (g := { g with stack := .ref a :: rest }) hg hsize T L Z LZ M LM (P1 :: Ps)
    (fun P hP => by rcases List.mem_cons.mp hP with rfl | hP; exact L1; exact hL P hP) ⟨hlink1, hlink⟩ (u0 := u0) (sen := sen) (self := a) hmsg (cell := freshCell P1.m.cls kX) (cellS := cellS)
    hcell (fun _ => by simp) (by simp) rfl rfl hsel0 hselF hcellS hneS hknownS (by rw [hkeep _ (hout' _)]; exact hu0) (by rw [hkeep _ (hout' _)]; exact hsen)
    (Takes.of_laid hk hord tyC (by rw [Y1.causeType]; rfl)) (Takes.of_laid hk hord tyS (by rw [Y1.stackType]; exact fits_refV_array _ u0)) (Takes.of_laid hk hord tyP (by rw [Y1.suppType]; exact fits_refV_object _ sen))
    (Takes.of_laid hk hord tyM (by rw [Y1.msgType]; exact fits_refV_object _ ⟨msg, hmsg⟩)) Y1.objLocals hskip htr [] hd6
    (by simp only [List.length_cons, hlen]; omega) (by simp only [List.length_cons, hlen]; exact hRlocals)
  obtain ⟨hwalk, hrun, hended, hWU, hsame⟩ := X₂.athrowLeaves hexec (g := { g with stack := .ref a :: rest, pc := g.pc + 3 }) hg hlocked hentered hout (a := a) (rest := rest) rfl hd9
  have hlt : a < ((W.setVm vm₁).setVm vm₂).heap.size := (Array.getElem?_eq_some_iff.mp hcell).1
  have hU := heapAt_setCell_self (s := (W.setVm vm₁).setVm vm₂) (plainBareV T.toThrowableT (freshCell P1.m.cls kX) a u0 sen msg) hlt
  refine ⟨_, st1 _ (fun acts => ?_), hrun, hended, hWU, hsame.weaken (fun y hy hlt' => ?_) (Nat.le_refl _) (Nat.le_refl _), _, hU, rfl, hfound⟩
  · rw [doInvoke_state]
    exact st2 _ hwalk
  · rcases List.mem_append.mp hy with h1 | h1
    · exact h1
    · exfalso
      have hb : y.base = a := by
        simp only [List.mem_cons, List.not_mem_nil, or_false] at h1
        rcases h1 with rfl | rfl | rfl | rfl | rfl <;> rfl
      rw [hb] at hlt'
      exact Nat.not_lt.mpr hnew hlt'
end MTC
section MTH
variable {p : Program} {l : Launch} {e : Env} {R : Room} {s : State} {m : MethodId} {args : Array Value} {below : List Frame} {meth : Method} {c : Code} {H : Heap} {locs : List Loc} {cells slots : Nat} {Q : State → Prop}
variable {mc ms : Nat} {free : Addr → Prop} {A0 A1 : Nat → Prop} {H0 : Heap} {a : Array Value} {ls : Array Slot} {st0 rest : List Value}
variable {Qc : Array Value → State → Outcome → State → Prop} {XC : String → State → State → Prop}
/-- (after vx_throwS of the kit) 'throw new E("text")': one cell is new, no more -/
theorem mt_throw {cc : ByteArray} {pc : Nat} (hexec : p.tables.exec = Jvm.exec) (hb : c.code = cc) (hl : l.stackTraces = false) {own cls text Y : String} {r : List String} {ik is ic ix mc ms sa : Nat} {rx : ByteArray} {A : Nat → Prop}
    (x0 : decode rx 0 = .ok (.aload_n 0, 1)) (x1 : decode rx 1 = .ok (.aload_n 1, 1)) (x2 : decode rx 2 = .ok (.invokespecial ix, 3)) (x5 : decode rx 5 = .ok (.return_, 1))
    (hown : s.vm.findClass own = some m.cls) (hcls : Bundle.fit cls = true) (hY : Bundle.fit Y = true) (hr : ∀ n ∈ r, Bundle.fit n = true)
    (hk : (Cond.classLink own ik cls).before args s = true) (hini : (Cond.initialized cls).before args s = true) (hstr : vk_R own is text sa s) (hat : ∀ w ∈ (mt_at own ic cls ix rx Y r).filter vx_no, w.before args s = true)
    (hgood : ∀ w ∈ Cond.classLink own ik cls :: Cond.initialized cls :: (mt_at own ic cls ix rx Y r).filter vx_no, vx_ot w = true)
    (hU : vx_Zq Bundle.tN "UNASSIGNED_STACK" Bundle.steD A s s.heap) (hN : vx_Zq Bundle.tN "SUPPRESSED_SENTINEL" Bundle.listD A s s.heap) (hS : va_S A s.heap H locs) (hsize : ls.size = c.maxLocals)
    (d0 : decode cc pc = .ok (.new ik, 3)) (d3 : decode cc (pc + 3) = .ok (.dup, 1)) (d4 : decode cc (pc + 4) = .ok (.ldc is, 2)) (d6 : decode cc (pc + 6) = .ok (.invokespecial ic, 3)) (d9 : decode cc (pc + 9) = .ok (.athrow, 1))
    (hout : ∀ x ∈ c.exceptionTable.toList, covers x (pc + 9) = false)
    (hRframes : r.length + 1 + 3 < R.frames) (hRlocals : (rest.map fun v => v.category).sum + (13 * (r.length + 1 + 1) + 43) ≤ R.locals) (hRcells : cells + 1 ≤ R.cells) (hRslots : slots + 6 ≤ R.slots) (hlocks : meth.locks = false)
    (hx : ∀ t : State, s.vm.Alike t.vm → t.heap.size = H.size + 1 → (∀ q : Nat, q < H.size → t.heap[q]? = H[q]?) → XC cls s t)
    (hf : ∀ z ∈ locs, free z.base) (hc : cells + 1 ≤ mc) (hs : slots + 6 ≤ ms) :
    W p l e R s m args below meth c H locs cells slots (vx_MQ below Qc XC args s mc ms free) (F0 m pc ls rest) := by
  intro T hT X
  have htr : e.platform.stackTraces = false := (show e.platform.stackTraces = l.stackTraces by rw [X.admits.platform]).trans hl
  have YB := vx_rebase X (R' := { frames := R.frames, locals := R.locals, cells := 1, slots := 6 }) (Nat.le_refl _) (Nat.le_refl _) hRcells hRslots
  obtain ⟨s', hA⟩ : ∃ z, z = (T.setVm s.vm).setFrames (.invoking m args :: below) := ⟨_, rfl⟩
  rw [← hA] at YB
  have hvm : s'.vm = s.vm := by rw [hA]; rfl
  have hhp : s'.heap = H := by rw [hA]; exact hT
  have hW0 : s.WarmedH s'.vm := by rw [hvm]; exact State.WarmedH.refl s
  have hat' : ∀ w ∈ (mt_at own ic cls ix rx Y r).filter vx_no, w.before args s' = true := fun w hw => vx_ot_at hW0 hvm.symm (hgood w (List.mem_cons_of_mem _ (List.mem_cons_of_mem _ hw))) (hat w hw)
  have hk' : (Cond.classLink own ik cls).before args s' = true := vx_ot_at hW0 hvm.symm (hgood _ List.mem_cons_self) hk
  have hini' : (Cond.initialized cls).before args s' = true := vx_ot_at hW0 hvm.symm (hgood _ (List.mem_cons_of_mem _ List.mem_cons_self)) hini
  have hU' : vx_Zq Bundle.tN "UNASSIGNED_STACK" Bundle.steD A s' s'.heap := by rw [hhp]; exact vx_Zq.moved hW0.alike (hU.kept hS.2.1)
  have hN' : vx_Zq Bundle.tN "SUPPRESSED_SENTINEL" Bundle.listD A s' s'.heap := by rw [hhp]; exact vx_Zq.moved hW0.alike (hN.kept hS.2.1)
  have h : ∀ w ∈ mt_at own ic cls ix rx Y r, w.before args s' = true := vx_own hat' (vx_isRefq hU'.1) (vx_isRefq hN'.1) hU'.2.word hN'.2.word
  have hown' : s'.vm.findClass own = some m.cls := by rw [hvm]; exact hown
  have hins : (Cond.instantiable cls 6).before args s' = true := h _ (by simp [mt_at])
  obtain ⟨vm₁, cX, kX, hfX, hkX, -, -, X₁, st1⟩ := YB.newCold hexec (own := own) (C := cls) (index := ik) (n := 6) hown' hk' hins hini'
    (g := F0 m pc ls rest) rfl (by rw [hb]; exact d0) (Nat.le_refl _) (Nat.le_refl _)
  generalize hT1 : (T.setVm vm₁).pushCell { cls := cX, slots := kX.instanceTypes.map defaultValue, vm := .none } = T1 at X₁ st1
  have hcat : (Value.ref T.heap.size).category = 1 := rfl
  have hcellA : T1.heap[T.heap.size]? = some (freshCell cX kX) := by rw [← hT1]; exact State.heap_pushCell_size _ _
  have d3' : decode c.code (pc + 3) = .ok (.dup, 1) := by rw [hb]; exact d3
  have d4' : decode c.code (pc + 4) = .ok (.ldc is, 2) := by rw [hb]; exact d4
  have hstr' : vk_R own is text sa s' := vk_R.warm hW0 hstr
  obtain ⟨U, hsteps, hrun, hend, hW, hsame, ce, hce, hOv, hOc⟩ := mt_ctor X₁ hexec htr (own := own) (cls := cls) (Y := Y) (r := r) (ic := ic) (ix := ix) (rx := rx) x0 x1 x2 x5 hown' hcls hY hr h (fun x hx => nomatch hx) hfX hkX hcellA (by rw [hhp, hT]; exact Nat.le_refl _) (msg := .ref sa) rfl
    (g := { method := m, pc := pc + 6, locals := ls, stack := .ref sa :: .ref T.heap.size :: .ref T.heap.size :: rest, locked := none }) rfl hsize rfl rfl (rest := rest) rfl
    (by rw [hb]; exact d6) (by rw [hb]; exact d9) hout hRframes (by simp only [List.map_cons, List.sum_cons, hcat]; omega) hlocks
  obtain ⟨f1, f2⟩ := vx_frame hsame
  rw [hhp] at f1 f2
  have f3 : U.heap.size = H.size + 1 := by
    have g1 : U.heap.size ≤ s'.heap.size + 1 := hsame.2.2.1
    have g2 : T.heap.size < U.heap.size := (Array.getElem?_eq_some_iff.mp hce).1
    rw [hhp] at g1
    rw [hT] at g2
    omega
  have hWs : s.WarmedH U.vm := State.WarmedH.trans hW0 hW
  have hcl : s.vm.findClass cls = some ce.cls := by
    have h9 := hOc
    rw [hvm] at h9
    exact h9
  have hall : s.sameButNew ({ U with vm := s.vm } : State) locs mc ms := by
    subst hA
    obtain ⟨e1, e2⟩ := hsame
    rw [State.setFrames_setFrames] at e1
    have h2 : (T.setVm s.vm).sameButNew ({ U with vm := s.vm } : State) [] (0 + 1) (0 + 6) := ⟨e1, e2⟩
    have h3 := X.same.trans h2
    rw [List.append_nil] at h3
    exact h3.mono hc hs
  refine ⟨U, ?_, .threw T.heap.size, hrun, hend, Or.inr ⟨T.heap.size, rfl, cls, ce, locs, hx U hWs.alike f3 (fun q hq => f2 q hq (fun z hz => nomatch hz)), hce, hOv, hcl, hWs, hall, hf⟩⟩
  refine st1 _ ?_
  show Steps p.tables e below (T1.setTop { method := m, pc := pc + 3, locals := ls, stack := .ref T.heap.size :: rest, locked := none }) _
  jvm_step X₁.here [X₁.here.top, hexec, d3', Value.category]
  exact X₁.ldcString hexec (own := own) (text := text) (index := is) (a := sa) hown' hstr'.1 hstr'.2
    (g := { method := m, pc := pc + 4, locals := ls, stack := .ref T.heap.size :: .ref T.heap.size :: rest, locked := none }) rfl d4' _ hsteps
end MTH
theorem mx_u1 {code : ByteArray} {pc : Nat} (h : ¬ pc < code.size) : (Reader.u1 : Decoder Nat).runAt code pc = .error (HasTruncated.truncated pc) := by
  show ((if h : pc < code.size then (do set (pc + 1); Pure.pure code[pc].toNat) else throw (HasTruncated.truncated pc) : Decoder Nat) code) pc = _
  rw [dif_neg h]
  rfl
theorem mx_dec {code : ByteArray} {pc : Nat} (h : ¬ pc < code.size) : ∃ er, decode code pc = .error er := by
  refine ⟨HasTruncated.truncated pc, ?_⟩
  have e := mx_u1 h
  unfold decode Decoder.instr
  show ((Reader.runAt (ε := DecodeError) (Reader.u1 >>= _) code pc) >>= _) = _
  have e2 : ∀ k : Nat → Decoder Instr, Reader.runAt (Reader.u1 >>= k) code pc = .error (HasTruncated.truncated pc) := fun k => by
    show ((Reader.u1 : Decoder Nat).runAt code pc >>= fun q => (k q.1).runAt code q.2) = _
    rw [e]
    rfl
  rw [e2]
  rfl
def xN (k : Nat) : String := if k = 1 then "java/lang/IndexOutOfBoundsException" else "java/util/NoSuchElementException"
def xTx (i : Nat) : String := if i = 112 then "no such place" else if i = 138 then "no such what" else "no such edge"
/-- words of the tables that no call hands on by itself -/
def xD : List Cond := [.castable (xN 1) (xN 1), .castable (xN 2) (xN 2), .declares (Bundle.initS "java/lang/RuntimeException"), .declares (Bundle.initS "java/lang/Exception"), .declares (Bundle.initS Bundle.tN)]
theorem xD_warm {s U : State} (hW : s.WarmedH U.vm) (h : ∀ w ∈ xD, va_Nw w s) : ∀ w ∈ xD, va_Nw w U := by
  intro w hw
  have h1 := h w hw
  simp only [xD, List.mem_cons, List.not_mem_nil, or_false] at hw
  rcases hw with rfl | rfl | rfl | rfl | rfl
  · exact va_Nw.warmC hW h1
  · exact va_Nw.warmC hW h1
  · exact va_Nw.warmD hW h1
  · exact va_Nw.warmD hW h1
  · exact va_Nw.warmD hW h1
/-- what a throw rests on: the texts, two statics of Throwable, some words of the tables -/
def XP (sz : Nat) (U : State) : Prop := (∀ i, i = 112 ∨ i = 138 ∨ i = 144 → ∃ sa, vk_R "ClockZones" i (xTx i) sa U) ∧ vx_Zq Bundle.tN "UNASSIGNED_STACK" Bundle.steD (mj_A sz) U U.heap ∧ vx_Zq Bundle.tN "SUPPRESSED_SENTINEL" Bundle.listD (mj_A sz) U U.heap ∧ ∀ w ∈ xD, va_Nw w U
theorem XP.go {sz : Nat} {s U : State} (hW : s.WarmedH U.vm) (hh : ∀ q : Nat, q < s.heap.size → ¬ sz ≤ q → U.heap[q]? = s.heap[q]?) (h : XP sz s) : XP sz U := by
  refine ⟨fun i hi => ?_, vx_Zq.moved hW.alike (h.2.1.kept hh), vx_Zq.moved hW.alike (h.2.2.1.kept hh), xD_warm hW h.2.2.2⟩
  obtain ⟨sa, q⟩ := h.1 i hi
  exact ⟨sa, q.warm hW⟩
def mx_rm (cells slots : Nat) : Room := { frames := 20, cells := cells, slots := slots, locals := 2000 }
def mx_XC (G : mj_G) (b sz : Nat) (w2 : mj_W) (f2 : mj_F) (v : Option mj_V) : String → State → State → Prop := fun E st t => ∃ k, (k = 1 ∨ k = 2) ∧ v = some (.inr (.inr (.inr k))) ∧ E = xN k ∧ mj_P G b sz w2 f2 t.heap ∧ va_F (mj_A sz) st t
theorem mj_P.junk {G : mj_G} {b sz : Nat} {w : mj_W} {f : mj_F} {H H' : Heap} (h : mj_P G b sz w f H) (hs : H'.size = H.size + 1) (hq : ∀ q : Nat, q < H.size → H'[q]? = H[q]?) : mj_P G b sz (mj_junk w) f H' := by
  obtain ⟨L, hP, hD, hL, hz, hwf, hr⟩ := h
  refine ⟨L, hP.kept (fun k q hk => hq _ (hP k q hk).lt), hD, hL, ?_, ⟨?_, fun a ha => ?_, hwf.2.2⟩, hr⟩
  · show H'.size + 2 = sz + (w.2.2.1 + 1)
    omega
  · show 2 ≤ w.2.2.1 + 1
    have := hwf.1
    omega
  · have := hwf.2.1 a ha
    show 2 ≤ a ∧ a < w.2.2.1 + 1
    omega
def mx_site (y pc : Nat) : Bool := match mj_dec y pc with
  | some (.new i) => (i == 110 || i == 136) && decide (decode (mj_code y) (pc + 3) = .ok (.dup, 1)) && (decide (decode (mj_code y) (pc + 4) = .ok (.ldc (if i = 136 then 138 else if y = 119 then 112 else 144), 2))) && decide (decode (mj_code y) (pc + 6) = .ok (.invokespecial (if i = 136 then 140 else 114), 3)) && decide (decode (mj_code y) (pc + 9) = .ok (.athrow, 1))
  | _ => true
theorem mx_sites : ((List.range 140).all fun pc => mx_site 119 pc && mx_site 126 pc) = true := by decide +kernel
theorem mx_size : (mj_code 119).size ≤ 140 ∧ (mj_code 126).size ≤ 140 := by decide +kernel
theorem mx_at {y pc i : Nat} (hy : y = 119 ∨ y = 126) (hd : mj_dec y pc = some (.new i)) : (i = 110 ∨ i = 136) ∧ decode (mj_code y) (pc + 3) = .ok (.dup, 1) ∧ decode (mj_code y) (pc + 4) = .ok (.ldc (if i = 136 then 138 else if y = 119 then 112 else 144), 2) ∧ decode (mj_code y) (pc + 6) = .ok (.invokespecial (if i = 136 then 140 else 114), 3) ∧ decode (mj_code y) (pc + 9) = .ok (.athrow, 1) := by
  have hpc : pc < 140 := by
    refine Classical.byContradiction fun h => ?_
    obtain ⟨n, hn, -⟩ := mj_dec_ex hd
    have hs : ¬ pc < (mj_code y).size := by
      rcases hy with rfl | rfl
      · have := mx_size.1; omega
      · have := mx_size.2; omega
    obtain ⟨er, he⟩ := mx_dec hs
    rw [hn] at he
    cases he
  have h := List.all_eq_true.mp mx_sites pc (List.mem_range.mpr hpc)
  have h2 : mx_site y pc = true := by
    rw [Bool.and_eq_true] at h
    rcases hy with rfl | rfl
    · exact h.1
    · exact h.2
  unfold mx_site at h2
  rw [hd] at h2
  simp only [Bool.and_eq_true, Bool.or_eq_true, beq_iff_eq, decide_eq_true_eq] at h2
  exact ⟨h2.1.1.1.1, h2.1.1.1.2, h2.1.1.2, h2.1.2, h2.2⟩
def mxA (k : Nat) : List Cond := if k = 1 then Cond.classLink "ClockZones" 110 (xN 1) :: Cond.initialized (xN 1) :: (mt_at "ClockZones" 114 (xN 1) 7 prog_14_method_2_code "java/lang/RuntimeException" ["java/lang/Exception"]).filter vx_no
  else Cond.classLink "ClockZones" 136 (xN 2) :: Cond.initialized (xN 2) :: (mt_at "ClockZones" 140 (xN 2) 13 prog_21_method_4_code "java/lang/RuntimeException" ["java/lang/Exception"]).filter vx_no
theorem mx_w1 : ((mxA 1).all fun w => (goodWord w && decide (w ∈ lw_tbl)) || decide (w ∈ xD)) = true := by decide +kernel
theorem mx_w2 : ((mxA 2).all fun w => (goodWord w && decide (w ∈ lw_tbl)) || decide (w ∈ xD)) = true := by decide +kernel
theorem xD_ok : (xD.all fun w => w.onTables && decide (w ∈ lw_tbl)) = true := by decide +kernel
theorem mx_in {L : List Cond} (h : (L.all fun w => goodWord w && decide (w ∈ lw_tbl)) = true) : ∀ w ∈ L, w ∈ lw_t2 := fun w hw => by
  have h1 := List.all_eq_true.mp h w hw
  rw [Bool.and_eq_true, decide_eq_true_eq] at h1
  exact List.mem_filter.mpr ⟨h1.2, h1.1⟩
/-- all words of a throw hold -/
theorem mx_all {args : Array Value} {s : State} {k : Nat} (hk : k = 1 ∨ k = 2) (h2 : ∀ w ∈ lw_t2, w.before args s = true) (hD : ∀ w ∈ xD, va_Nw w s) : ∀ w ∈ mxA k, w.before args s = true ∧ vx_ot w = true := by
  intro w hw
  have h1 : ((goodWord w && decide (w ∈ lw_tbl)) || decide (w ∈ xD)) = true := by
    rcases hk with rfl | rfl
    · exact List.all_eq_true.mp mx_w1 w hw
    · exact List.all_eq_true.mp mx_w2 w hw
  rw [Bool.or_eq_true, Bool.and_eq_true, decide_eq_true_eq, decide_eq_true_eq] at h1
  unfold vx_ot
  rcases h1 with h1 | h1
  · exact ⟨h2 w (List.mem_filter.mpr ⟨h1.2, h1.1⟩), by rw [h1.1, Bool.or_true]⟩
  · have h3 := List.all_eq_true.mp xD_ok w h1
    rw [Bool.and_eq_true] at h3
    exact ⟨va_Nw.use h3.1 (hD w h1), by rw [h3.1, Bool.true_or]⟩
