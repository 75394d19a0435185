/-! Calls, and whole methods. -/
theorem mj_own_all : ((List.range 315).all fun y => mj_own y == (mj_nm y).cls) = true := by decide +kernel
theorem mj_own_nm {y : Nat} (h : y < 315) : mj_own y = (mj_nm y).cls := beq_iff_eq.mp (List.all_eq_true.mp mj_own_all y (List.mem_range.mpr h))
def mj_ws (y : Nat) : List Cond := mj_cw y :: lw_t2
def mj_rm (y cells slots : Nat) : Room := { frames := mj_lev y + 1, cells := cells, slots := slots, locals := 100 * (mj_lev y + 1) }
def mj_B (G : mj_G) (b sz : Nat) (w : mj_W) (f : mj_F) (U : State) : Prop := mj_P G b sz w f U.heap ∧ mj_Ok G U ∧ b < sz ∧ ((w.1 1).1 = 104 → va_X b (w.1 1).2 (fun j => Int32.ofInt (f 1 j)) U U.heap)
def mj_Q (G : mj_G) (b sz : Nat) (w : mj_W) (f : mj_F) (v : Option mj_V) : Array Value → State → Outcome → State → Prop := fun _ st oc t => oc = .returned (v.map (mj_val b sz)) ∧ mj_P G b sz w f t.heap ∧ va_F (mj_A sz) st t
theorem mj_B_blind {G : mj_G} {b sz : Nat} {w : mj_W} {f : mj_F} {av : List Value} : FrameBlind (va_Pc av (mj_B G b sz w f)) := by
  intro a U g mk h
  obtain ⟨h1, h2, h3, h4, h5⟩ := h
  exact ⟨h1, h2, mj_Ok.same (s := U) (U := U.calling g mk a) rfl h3, h4, fun q => va_X.moved (u := U) (U := U.calling g mk a) (Vm.Alike.refl U.vm) (h5 q)⟩
theorem mj_args_at {b sz : Nat} : ∀ (as : List mj_V), (∀ v ∈ as, mj_cat v = 1) → ∀ (i k : Nat) (v : mj_V), as[k]? = some v → (i + k, mj_val b sz v) ∈ lv_args i (as.map (mj_val b sz)) := by
  intro as
  induction as with
  | nil => intro _ i k v h; simp at h
  | cons x t ih =>
    intro hc i k v h
    have hx := List.forall_mem_cons.mp hc
    show _ ∈ (i, mj_val b sz x) :: lv_args (if (mj_val b sz x).category = 2 then i + 2 else i + 1) (t.map (mj_val b sz))
    rw [mj_val_cat, hx.1, if_neg (by decide)]
    cases k with
    | zero =>
      cases h
      exact List.mem_cons_self
    | succ k =>
      have := ih hx.2 (i + 1) k v h
      rw [show i + 1 + k = i + (k + 1) by omega] at this
      exact List.mem_cons_of_mem _ this
theorem mj_sl_len {b sz : Nat} : ∀ (as : List mj_V), (∀ v ∈ as, mj_cat v = 1) → (lg_sl (as.map (mj_val b sz))).length = as.length := by
  intro as
  induction as with
  | nil => intro _; rfl
  | cons x t ih =>
    intro hc
    have hx := List.forall_mem_cons.mp hc
    have h := ih hx.2
    unfold lg_sl at h ⊢
    rw [List.map_cons, List.flatMap_cons, List.length_append, h, mj_val_cat, hx.1, if_neg (by decide)]
    simp
    omega
/-- a method's entry -/
theorem mj_entry {b sz y : Nat} {as : List mj_V} (hc : ∀ v ∈ as, mj_cat v = 1) (ho : ∀ v ∈ as, mj_okv v) (hl : as.length ≤ mj_nL y) (m : MethodId) : ∃ lsA : Array Slot, entryFrame m (as.map (mj_val b sz)).toArray (mj_nL y) = F0 m 0 lsA [] ∧ mj_Ls b sz y (mj_pad y as) lsA := by
  refine ⟨_, lg_entry_eq m _ _, ?_, ?_, lv_args 0 (as.map (mj_val b sz)), lv_entry _ (by rw [mj_sl_len as hc]; exact hl), ?_⟩
  · unfold mj_pad
    rw [List.length_append, List.length_replicate]
    omega
  · intro v hv
    unfold mj_pad at hv
    rcases List.mem_append.mp hv with h | h
    · exact ho v h
    · rw [(List.mem_replicate.mp h).2]
      exact trivial
  · intro k v hk hu
    unfold mj_pad at hk
    by_cases hkl : k < as.length
    · rw [List.getElem?_append_left hkl] at hk
      have := mj_args_at (b := b) (sz := sz) as hc 0 k v hk
      rw [Nat.zero_add] at this
      exact this
    · rw [List.getElem?_append_right (by omega)] at hk
      have := List.mem_of_getElem? hk
      exact absurd (List.mem_replicate.mp this).2 (hu 0)
theorem mj_good_ws {cy : Nat} (h : cy < 314) : GoodIn lw_t2 (mj_ws cy) := by
  intro w hw
  rcases List.mem_cons.mp hw with rfl | hw
  · exact ⟨mj_t2 (mj_cw_at h) rfl, Or.inl rfl⟩
  · exact ⟨hw, good_of_word (List.mem_filter.mp hw).2⟩
section MJ
variable {p : Program} {l : Launch} {e : Env} {R : Room} {s : State} {m : MethodId} {args : Array Value} {below : List Frame} {meth : Method} {c : Code} {Q : State → Prop} {G : mj_G} {b sz : Nat} {H : Heap} {n0 s0 y : Nat} {w w' : mj_W} {f f' : mj_F} {ls ls' st st' : List mj_V} {locs : List Loc} {lsA : Array Slot} {pc pc' : Nat}
theorem mj_go {v : Option mj_V} {st0 rest : List Value} {a : Array Value} {free : Addr → Prop} {cells slots mc ms : Nat} (hr : va_Run p l e R s m args below meth c H locs cells slots mc ms (F0 m pc lsA st0) rest (mj_Q G b sz w' f' v a) free) (hS : va_S (mj_A sz) s.heap H locs) (hf : ∀ q, free q → sz ≤ q)
    (kk : ∀ (H1 : Heap) (locs1 : List Loc), mj_P G b sz w' f' H1 → va_S (mj_A sz) s.heap H1 locs1 → W p l e R s m args below meth c H1 locs1 (cells + mc) (slots + ms) Q (F0 m (pc + 3) lsA ((v.map (mj_val b sz)).toList ++ rest))) : W p l e R s m args below meth c H locs cells slots Q (F0 m pc lsA st0) := by
  intro T hT X
  obtain ⟨v0, st₀, t, T', L, h0, X', hL, e1, e2, ⟨hv, hP, hz, hk⟩, st⟩ := hr T hT X
  have hv : v0 = v.map (mj_val b sz) := by injection hv
  subst hv
  rw [h0] at hz hk
  obtain ⟨t2, a1, b1⟩ := kk T'.heap (locs ++ L) (by rw [e1]; exact hP) ⟨Nat.le_trans hS.1 (by rw [e1]; exact hz), fun q h1 h2 => by rw [e1, hk q (Nat.lt_of_lt_of_le h1 hS.1) h2]; exact hS.2.1 q h1 h2, fun q hq => by
      rcases List.mem_append.mp hq with h | h
      · exact hS.2.2 q h
      · exact hf _ (hL q h)⟩ T' rfl X'
  exact ⟨t2, st t2 a1, b1⟩
/-- what a call of ours is: which method, how it is linked -/
theorem mj_callee_ok {i : Instr} {cy : Nat} {as rest : List mj_V} (hwf : mj_wf w) (h : mj_callee y i w st = some (cy, as, rest, 0)) : mj_lev cy < mj_lev y ∧ cy < 314 ∧ st = as.reverse ++ rest ∧ as.length = mj_ar cy ∧ mj_low rest = true ∧ (∀ v ∈ as, mj_cat v = 1) ∧
    ∃ (idx q : Nat), ((lw_tbl[q]? = some (Cond.methodLink (mj_own y) idx (mj_nm cy))) ∨ ∃ host, lw_tbl[q]? = some (Cond.methodLinkNest (mj_own y) idx (mj_nm cy) host)) ∧
      ((i = .invokevirtual idx ∧ mj_mkd cy = 1 ∧ ∃ a as', as = .inr (.inl a) :: as' ∧ w.1 a = (mj_cn cy, 0)) ∨ (i = .invokestatic idx ∧ mj_mkd cy = 0) ∨ (i = .invokespecial idx ∧ mj_mkd cy = 2 ∧ ∃ a as', as = .inr (.inl a) :: as')) := by
  have hA : ∀ (cy' : Nat) (virt : Bool), mj_dn y cy' (mj_args w st cy' virt) = some (cy, as, rest, 0) → cy' = cy ∧ mj_lev cy < mj_lev y ∧ st = as.reverse ++ rest ∧ as.length = mj_ar cy ∧ mj_low rest = true ∧ (∀ v ∈ as, mj_cat v = 1) ∧ (virt = true → ∃ a as', as = .inr (.inl a) :: as' ∧ w.1 a = (mj_cn cy, 0)) := by
    intro cy' virt h
    unfold mj_dn at h
    split at h
    · next hlev =>
      unfold mj_args at h
      split at h
      · next hc =>
        obtain ⟨h1, h2, h3⟩ := hc
        have hcat : ∀ v ∈ (st.take (mj_ar cy')).reverse, mj_cat v = 1 := fun v hv => beq_iff_eq.mp (List.all_eq_true.mp h3 v (List.mem_reverse.mp hv))
        have hst : st = ((st.take (mj_ar cy')).reverse).reverse ++ st.drop (mj_ar cy') := by rw [List.reverse_reverse, List.take_append_drop]
        have hlen : ((st.take (mj_ar cy')).reverse).length = mj_ar cy' := by rw [List.length_reverse, List.length_take]; omega
        split at h
        · next a as' heq =>
          split at h
          · next hw =>
            cases h
            rw [heq] at hcat hst hlen
            exact ⟨rfl, hlev, hst, hlen, h2, hcat, fun _ => ⟨a, as', rfl, hw⟩⟩
          · cases h
        · cases h
        · cases h
          exact ⟨rfl, hlev, hst, hlen, h2, hcat, fun q => by cases q⟩
      · cases h
    · cases h
  have hN : ∀ {q cy' idx : Nat}, ((match lw_tbl[q]? with
    | some (.methodLinkNest own i x _) => own == mj_owns.getD (mj_cn y) "" && i == idx && decide (x = mj_nm cy')
    | _ => false) = true) → ∃ host, lw_tbl[q]? = some (.methodLinkNest (mj_own y) idx (mj_nm cy') host) := by
    intro q cy' idx h
    split at h
    · next own i x host heq =>
      simp only [Bool.and_eq_true, beq_iff_eq, decide_eq_true_eq] at h
      obtain ⟨⟨a1, a2⟩, a3⟩ := h
      subst a1 a2 a3
      exact ⟨host, heq⟩
    · cases h
  unfold mj_callee at h
  split at h
  · next idx =>
    split at h
    · next cy' q hq =>
      obtain ⟨rfl, g1, g2, g3, g4, g5, g6⟩ := hA _ _ h
      have hlk := mj_cl2_ok hq
      unfold mj_cok at hlk
      simp only [Bool.and_eq_true, decide_eq_true_eq] at hlk
      exact ⟨g1, hlk.1.2, g2, g3, g4, g5, idx, q, Or.inl hlk.1.1, Or.inl ⟨rfl, hlk.2, g6 rfl⟩⟩
    · next cy' q hq =>
      obtain ⟨rfl, g1, g2, g3, g4, g5, g6⟩ := hA _ _ h
      have hlk := mj_cl2_ok hq
      unfold mj_cok at hlk
      simp only [Bool.and_eq_true, decide_eq_true_eq] at hlk
      exact ⟨g1, hlk.1.2, g2, g3, g4, g5, idx, q, Or.inr (hN hlk.1.1), Or.inl ⟨rfl, hlk.2, g6 rfl⟩⟩
    · cases h
  · next idx =>
    split at h
    · next cy' q hq =>
      obtain ⟨rfl, g1, g2, g3, g4, g5, g6⟩ := hA _ _ h
      have hlk := mj_cl2_ok hq
      unfold mj_cok at hlk
      simp only [Bool.and_eq_true, decide_eq_true_eq] at hlk
      exact ⟨g1, hlk.1.2, g2, g3, g4, g5, idx, q, Or.inl hlk.1.1, Or.inr (Or.inl ⟨rfl, hlk.2⟩)⟩
    · next cy' q hq =>
      obtain ⟨rfl, g1, g2, g3, g4, g5, g6⟩ := hA _ _ h
      have hlk := mj_cl2_ok hq
      unfold mj_cok at hlk
      simp only [Bool.and_eq_true, decide_eq_true_eq] at hlk
      exact ⟨g1, hlk.1.2, g2, g3, g4, g5, idx, q, Or.inr (hN hlk.1.1), Or.inr (Or.inl ⟨rfl, hlk.2⟩)⟩
    · next cy' q o bb aa xx r hq =>
      split at h
      · next hw =>
        have hr : (cy', ([.inr (.inl xx), .inl aa, .inl bb] : List mj_V), r, o) = (cy, as, rest, 0) := Option.some.inj h
        have ho : o = 0 := congrArg (fun q => q.2.2.2) hr
        subst ho
        have := (hwf.2.1 0 (by unfold mj_lv; rw [hw.1]; omega)).1
        omega
      · cases h
    · cases h
  · next idx =>
    split at h
    · next cy' q hq =>
      obtain ⟨rfl, g1, g2, g3, g4, g5, g6⟩ := hA _ _ h
      have hlk := mj_cl2_ok hq
      unfold mj_cok at hlk
      simp only [Bool.and_eq_true, decide_eq_true_eq] at hlk
      obtain ⟨a, as', h1, -⟩ := g6 rfl
      exact ⟨g1, hlk.1.2, g2, g3, g4, g5, idx, q, Or.inl hlk.1.1, Or.inr (Or.inr ⟨rfl, hlk.2, a, as', h1⟩)⟩
    · next cy' q hq =>
      obtain ⟨rfl, g1, g2, g3, g4, g5, g6⟩ := hA _ _ h
      have hlk := mj_cl2_ok hq
      unfold mj_cok at hlk
      simp only [Bool.and_eq_true, decide_eq_true_eq] at hlk
      obtain ⟨a, as', h1, -⟩ := g6 rfl
      exact ⟨g1, hlk.1.2, g2, g3, g4, g5, idx, q, Or.inr (hN hlk.1.1), Or.inr (Or.inr ⟨rfl, hlk.2, a, as', h1⟩)⟩
    · cases h
  · cases h
/-- a call, by the contract of what is called -/
theorem mj_call0 {i : Instr} {cy : Nat} {as rest : List mj_V} {w2 : mj_W} {f2 : mj_F} {v : Option mj_V} (C : mj_C p s m args meth c G y) (I : mj_I s G b sz n0 s0 y w f ls st H locs lsA) (hd : mj_dec y pc = some i) (hc : mj_callee y i w st = some (cy, as, rest, 0))
    (hmono : w.2.2.1 ≤ w2.2.2.1 ∧ w.2.2.2 ≤ w2.2.2.2) (hM : Met l (mj_nm cy) (mj_ws cy) (mj_rm cy (w2.2.2.1 - w.2.2.1) (w2.2.2.2 - w.2.2.2)) (va_Pc (as.map (mj_val b sz)) (mj_B G b sz w f)) (mj_Q G b sz w2 f2 v) (w2.2.2.1 - w.2.2.1) (w2.2.2.2 - w.2.2.2) (fun q => sz ≤ q))
    (hRf : mj_lev y + 1 ≤ R.frames) (hRl : 100 * (mj_lev y + 1) ≤ R.locals) (hRc : w2.2.2.1 - n0 ≤ R.cells) (hRs : w2.2.2.2 - s0 ≤ R.slots) (hX1 : w2.1 1 = w.1 1) (hX2 : f2 1 = f 1) (hov : ∀ u, v = some u → mj_okv u)
    (kk : mj_K p l e R s m args below meth c Q G b sz n0 s0 y w2 f2 (pc + 3) ls (v.toList ++ rest)) : mj_Wg p l e R s m args below meth c Q b sz n0 s0 w H locs pc lsA st := by
  obtain ⟨hx, hb, hml, hown, hts, hini, hok⟩ := C
  obtain ⟨⟨L, hP, hD, hL, hz, hwf, hr⟩, hS, hls, ho, hn, hbz, hX, hn0, hs0⟩ := id I
  obtain ⟨hlev, hcy, rfl, hlen, hlow, hcat, idx, q, hlink, hkind⟩ := mj_callee_ok hwf hc
  have hm := mj_mok_all hcy
  unfold mj_mok at hm
  simp only [Bool.and_eq_true, decide_eq_true_eq] at hm
  obtain ⟨⟨⟨⟨⟨⟨hi1, hi2⟩, hi3⟩, hi4⟩, hi5⟩, hi6⟩, hi7⟩ := hm
  obtain ⟨lv, hlv, -⟩ := hls.2.2
  have hl8 := mj_low_ok (b := b) (sz := sz) hlow
  have hoas : ∀ u ∈ rest, mj_okv u := fun u hu => ho u (List.mem_append_right _ hu)
  have e1 : w.2.2.1 - n0 + (w2.2.2.1 - w.2.2.1) = w2.2.2.1 - n0 := by omega
  have e2 : w.2.2.2 - s0 + (w2.2.2.2 - w.2.2.2) = w2.2.2.2 - s0 := by omega
  have hfit : w.2.2.1 - n0 + (w2.2.2.1 - w.2.2.1) ≤ R.cells ∧ w.2.2.2 - s0 + (w2.2.2.2 - w.2.2.2) ≤ R.slots := by rw [e1, e2]; exact ⟨hRc, hRs⟩
  have hini1 := hts _ (mj_t2 hi1 rfl)
  have hR2 : (mj_rm cy (w2.2.2.1 - w.2.2.1) (w2.2.2.2 - w.2.2.2)).frames + 1 ≤ R.frames ∧ 8 + (mj_nL cy + 11) + (mj_rm cy (w2.2.2.1 - w.2.2.1) (w2.2.2.2 - w.2.2.2)).locals ≤ R.locals := by
    show mj_lev cy + 1 + 1 ≤ R.frames ∧ 8 + (mj_nL cy + 11) + 100 * (mj_lev cy + 1) ≤ R.locals
    omega
  have hpre : ∀ U : State, U.heap = H → s.WarmedH U.vm → va_Pc (as.map (mj_val b sz)) (mj_B G b sz w f) (as.map (mj_val b sz)).toArray U := by
    intro U hU hW
    refine ⟨rfl, ?_, hok.warm hW, hbz, fun q => ?_⟩
    · rw [hU]
      exact I.1
    · refine va_X.moved hW.alike ((hX q).kept ?_)
      rw [hU]
      exact hS.2.1 b (by omega) (by show ¬ sz ≤ b; omega)
  have hcont : ∀ (H1 : Heap) (locs1 : List Loc), mj_P G b sz w2 f2 H1 → va_S (mj_A sz) s.heap H1 locs1 → W p l e R s m args below meth c H1 locs1 (w.2.2.1 - n0 + (w2.2.2.1 - w.2.2.1)) (w.2.2.2 - s0 + (w2.2.2.2 - w.2.2.2)) Q (F0 m (pc + 3) lsA ((v.map (mj_val b sz)).toList ++ rest.map (mj_val b sz))) := by
    intro H1 locs1 hP1 hS1
    have h := kk H1 locs1 lsA ⟨hP1, hS1, hls, ?_, hn, hbz, mj_X_keep hX hX1 hX2, by omega, by omega⟩
    · unfold mj_Wg at h
      rw [e1, e2]
      rw [List.map_append] at h
      cases v with
      | none => exact h
      | some u => exact h
    · intro u hu
      rcases List.mem_append.mp hu with h | h
      · cases v with
        | none => cases h
        | some x =>
          rw [List.mem_singleton.mp h]
          exact hov x rfl
      · exact hoas u h
  unfold mj_Wg
  rcases hkind with ⟨rfl, hk, a, as', rfl, hwa⟩ | ⟨rfl, hk⟩ | ⟨rfl, hk, a, as', rfl⟩
  · rw [hk] at hi7
    simp only [Bool.and_eq_true, decide_eq_true_eq] at hi7
    obtain ⟨⟨⟨⟨j1, j2⟩, j3⟩, j4⟩, j5⟩ := hi7
    have hdg : decode (mj_code y) pc = .ok (.invokevirtual idx, 3) := mj_dec_ok hd rfl (by decide)
    have hin := hts _ (mj_t2 j1 rfl)
    have hsel := hts _ (mj_t2 j2 rfl)
    cases hcl : mj_cl[mj_cn cy]? with
    | none => rw [hcl] at j5; cases j5
    | some rr =>
      rw [hcl] at j5
      have hrr : rr.1 = (mj_nm cy).cls := Option.some.inj j5
      obtain ⟨CC, T, N⟩ := rr
      obtain ⟨-, hcn⟩ := mj_cl_nf hcl
      obtain ⟨-, -, -, -, q0, hq0⟩ := mj_P_at (G := G) (b := b) (f := f) hL hwf (mj_lv_of hwa hcn)
      rw [mj_E_obj hwa hcn] at hq0
      have hrecv := va_recv hok.1 hP hcl hq0
      rw [hrr] at hrecv
      have hlen' : (as'.map (mj_val b sz)).length = mj_ar cy - 1 := by rw [List.length_map]; simp only [List.length_cons] at hlen; omega
      have hstk : (((.inr (.inl a) :: as').reverse ++ rest).map (mj_val b sz)) = (as'.map (mj_val b sz)).reverse ++ .ref (mj_ad b sz a) :: rest.map (mj_val b sz) := by
        simp [mj_val]
      rcases hlink with hl | ⟨host, hl⟩
      · exact mj_go (va_runV (C := (mj_nm cy).cls) (b := mj_ad b sz a) (As := as'.map (mj_val b sz)) (rest := rest.map (mj_val b sz)) ⟨hx, hb, hml, hown, hts⟩ hM ⟨callB_of (mj_ar cy - 1) hts (mj_good_ws hcy) rfl rfl rfl hini1 (hts _ (mj_t2 hl rfl)) ⟨hi3, hi4, j3⟩ hR2, hin, hsel⟩ ⟨mj_B_blind, hrecv, hpre⟩ rfl hlen' hlv.1 hstk (by show 2 * 0 + _ ≤ 8; omega) hdg hfit) hS (fun q h => h) hcont
      · exact mj_go (va_runVN (C := (mj_nm cy).cls) (b := mj_ad b sz a) (As := as'.map (mj_val b sz)) (rest := rest.map (mj_val b sz)) ⟨hx, hb, hml, hown, hts⟩ hM ⟨va_cnB (mj_ar cy - 1) hts (mj_good_ws hcy) rfl rfl rfl (hok.2.2 _ (List.mem_of_getElem? hl) rfl) hini1 ⟨hi3, hi4, j3⟩ hR2, hin, hsel⟩ ⟨mj_B_blind, hrecv, hpre⟩ rfl hlen' hlv.1 hstk (by show 2 * 0 + _ ≤ 8; omega) hdg hfit) hS (fun q h => h) hcont
  · rw [hk] at hi7
    simp only [Bool.and_eq_true, decide_eq_true_eq] at hi7
    obtain ⟨j1, j3⟩ := hi7
    have hdg : decode (mj_code y) pc = .ok (.invokestatic idx, 3) := mj_dec_ok hd rfl (by decide)
    have hin := hts _ (mj_t2 j1 rfl)
    have hlen' : (as.map (mj_val b sz)).length = mj_ar cy := by rw [List.length_map]; exact hlen
    have hstk : ((as.reverse ++ rest).map (mj_val b sz)) = (as.map (mj_val b sz)).reverse ++ rest.map (mj_val b sz) := by
      simp
    rcases hlink with hl | ⟨host, hl⟩
    · exact mj_go (va_runS (As := as.map (mj_val b sz)) (rest := rest.map (mj_val b sz)) ⟨hx, hb, hml, hown, hts⟩ hM ⟨callB_of (mj_ar cy) hts (mj_good_ws hcy) rfl rfl rfl hini1 (hts _ (mj_t2 hl rfl)) ⟨hi3, hi4, j3⟩ hR2, hin⟩ ⟨mj_B_blind, hpre⟩ rfl hlen' hlv.1 hstk (by show 2 * 0 + _ ≤ 8; omega) hdg hfit) hS (fun q h => h) hcont
    · exact mj_go (va_runSN (As := as.map (mj_val b sz)) (rest := rest.map (mj_val b sz)) ⟨hx, hb, hml, hown, hts⟩ hM ⟨va_cnB (mj_ar cy) hts (mj_good_ws hcy) rfl rfl rfl (hok.2.2 _ (List.mem_of_getElem? hl) rfl) hini1 ⟨hi3, hi4, j3⟩ hR2, hin, trivial⟩ ⟨mj_B_blind, hpre⟩ rfl hlen' hlv.1 hstk (by show 2 * 0 + _ ≤ 8; omega) hdg hfit) hS (fun q h => h) hcont
  · rw [hk] at hi7
    simp only [Bool.and_eq_true, decide_eq_true_eq] at hi7
    obtain ⟨⟨⟨⟨j1, j2⟩, j4⟩, j3⟩, j5⟩ := hi7
    have hdg : decode (mj_code y) pc = .ok (.invokespecial idx, 3) := mj_dec_ok hd rfl (by decide)
    have hin := hts _ (mj_t2 j1 rfl)
    have hlen' : (as'.map (mj_val b sz)).length = mj_ar cy - 1 := by rw [List.length_map]; simp only [List.length_cons] at hlen; omega
    have hstk : (((.inr (.inl a) :: as').reverse ++ rest).map (mj_val b sz)) = (as'.map (mj_val b sz)).reverse ++ .ref (mj_ad b sz a) :: rest.map (mj_val b sz) := by
      simp [mj_val]
    have hws : mj_ws cy = Cond.code (mj_nm cy) (mj_code cy) (mj_nL cy) none :: lw_t2 := by unfold mj_ws mj_cw; rw [j4]
    rcases hlink with hl | ⟨host, hl⟩
    · exact mj_go (va_runI (b := mj_ad b sz a) (As := as'.map (mj_val b sz)) (rest := rest.map (mj_val b sz)) ⟨hx, hb, hml, hown, hts⟩ hM ⟨callB_of (mj_ar cy - 1) hts (mj_good_ws hcy) hws rfl rfl hini1 (hts _ (mj_t2 hl rfl)) ⟨hi3, hi4, j3⟩ hR2, j2, hin⟩ ⟨mj_B_blind, hpre⟩ rfl hlen' hlv.1 hstk (by show 2 * 0 + _ ≤ 8; omega) hdg hfit) hS (fun q h => h) hcont
    · exact mj_go (va_runIN (b := mj_ad b sz a) (As := as'.map (mj_val b sz)) (rest := rest.map (mj_val b sz)) ⟨hx, hb, hml, hown, hts⟩ hM ⟨va_cnB (mj_ar cy - 1) hts (mj_good_ws hcy) hws rfl rfl (hok.2.2 _ (List.mem_of_getElem? hl) rfl) hini1 ⟨hi3, hi4, j3⟩ hR2, j2, hin⟩ ⟨mj_B_blind, hpre⟩ rfl hlen' hlv.1 hstk (by show 2 * 0 + _ ≤ 8; omega) hdg hfit) hS (fun q h => h) hcont
end MJ
/-- where a method ends -/
def mj_EndK (p : Program) (l : Launch) (e : Env) (R : Room) (s : State) (m : MethodId) (args : Array Value) (below : List Frame) (meth : Method) (c : Code) (Q : State → Prop) (G : mj_G) (b sz n0 s0 y : Nat) (r : mj_O) : Prop :=
  ∀ (w1 : mj_W) (f1 : mj_F) (pc1 : Nat) (ls1 st1 : List mj_V) (i : Instr) (w2 : mj_W) (v : Option mj_V) (H1 : Heap) (locs1 : List Loc) (lsA1 : Array Slot), mj_dec y pc1 = some i → mj_end y i w1 st1 = some (w2, v) → r = (w2, f1, v) → mj_I s G b sz n0 s0 y w1 f1 ls1 st1 H1 locs1 lsA1 → mj_Wg p l e R s m args below meth c Q b sz n0 s0 w1 H1 locs1 pc1 lsA1 st1
/-- a call by way of the law's wrappers -/
def mj_8K (p : Program) (l : Launch) (e : Env) (R : Room) (s : State) (m : MethodId) (args : Array Value) (below : List Frame) (meth : Method) (c : Code) (Q : State → Prop) (G : mj_G) (b sz n0 s0 y : Nat) : Prop :=
  ∀ (n : Nat) (w1 : mj_W) (f1 : mj_F) (pc1 : Nat) (ls1 st1 : List mj_V) (i : Instr) (cy k : Nat) (as rest : List mj_V) (w2 : mj_W) (f2 f3 : mj_F) (v v3 : Option mj_V) (H1 : Heap) (locs1 : List Loc) (lsA1 : Array Slot), mj_dec y pc1 = some i → mj_callee y i w1 st1 = some (cy, as, rest, k) → k ≠ 0 → mj_exec n cy w1 f1 0 (mj_pad cy as) [] = some (w2, f2, v) → mj_ret k f2 v = some (f3, v3) → mj_I s G b sz n0 s0 y w1 f1 ls1 st1 H1 locs1 lsA1 → w2.2.2.1 - n0 ≤ R.cells → w2.2.2.2 - s0 ≤ R.slots → mj_K p l e R s m args below meth c Q G b sz n0 s0 y w2 f3 (pc1 + 3) ls1 (v3.toList ++ rest) → mj_Wg p l e R s m args below meth c Q b sz n0 s0 w1 H1 locs1 pc1 lsA1 st1
/-- a run of ours is a run of the real machine (for n steps of ours) -/
def mj_Sim (l : Launch) (n : Nat) : Prop := ∀ (y : Nat) (w : mj_W) (f : mj_F) (pc : Nat) (ls st : List mj_V) (r : mj_O), mj_exec n y w f pc ls st = some r → ∀ {p : Program} {e : Env} {R : Room} {s : State} {m : MethodId} {args : Array Value} {below : List Frame} {meth : Method} {c : Code} {Q : State → Prop} {G : mj_G} {b sz : Nat} {H : Heap} {n0 s0 : Nat} {locs : List Loc} {lsA : Array Slot},
  mj_C p s m args meth c G y → mj_I s G b sz n0 s0 y w f ls st H locs lsA → mj_lev y + 1 ≤ R.frames → 100 * (mj_lev y + 1) ≤ R.locals → r.1.2.2.1 - n0 ≤ R.cells → r.1.2.2.2 - s0 ≤ R.slots → mj_EndK p l e R s m args below meth c Q G b sz n0 s0 y r → mj_8K p l e R s m args below meth c Q G b sz n0 s0 y → mj_Wg p l e R s m args below meth c Q b sz n0 s0 w H locs pc lsA st
theorem mj_no8 : ((List.range 26).all fun cn => (mj_cts.getD cn []).all fun e => decide (cn = 10) || decide (e.2.1 ≠ 8)) = true := by decide +kernel
theorem mj_no8_ok {y : Nat} {i : Instr} {w : mj_W} {st : List mj_V} {cy k : Nat} {as rest : List mj_V} (hy : mj_cn y ≠ 10) (h : mj_callee y i w st = some (cy, as, rest, k)) : k = 0 := by
  have hA : ∀ (cy' : Nat) (virt : Bool), mj_dn y cy' (mj_args w st cy' virt) = some (cy, as, rest, k) → k = 0 := by
    intro cy' virt h
    unfold mj_dn at h
    split at h
    · unfold mj_args at h
      split at h
      · split at h
        · split at h
          · cases h; rfl
          · cases h
        · cases h
        · cases h; rfl
      · cases h
    · cases h
  unfold mj_callee at h
  split at h
  · split at h
    · exact hA _ _ h
    · exact hA _ _ h
    · cases h
  · split at h
    · exact hA _ _ h
    · exact hA _ _ h
    · next hq =>
      have hm := mj_look_mem _ _ _ hq
      have hl := mj_look_lt hq
      rw [mj_cts_len] at hl
      have h1 := List.all_eq_true.mp (List.all_eq_true.mp mj_no8 _ (List.mem_range.mpr hl)) _ hm
      simp [hy] at h1
    · cases h
  · split at h
    · exact hA _ _ h
    · exact hA _ _ h
    · cases h
  · cases h
theorem mj_cn10 : ((List.range 314).all fun y => decide (mj_cn y ≠ 10)) = true := by decide +kernel
/-- a method's contract, out of a run of ours -/
theorem mj_met {l : Launch} {n cy : Nat} {w : mj_W} {f : mj_F} {as : List mj_V} {w2 : mj_W} {f2 : mj_F} {v : Option mj_V} (hS : mj_Sim l n) (hcy : cy < 314) (hx : mj_exec n cy w f 0 (mj_pad cy as) [] = some (w2, f2, v)) (hv : ∀ k, v ≠ some (.inr (.inr (.inr k)))) (hc : ∀ v ∈ as, mj_cat v = 1) (ho : ∀ v ∈ as, mj_okv v) (hlen : as.length ≤ mj_nL cy) (G : mj_G) (b sz : Nat) :
    Met l (mj_nm cy) (mj_ws cy) (mj_rm cy (w2.2.2.1 - w.2.2.1) (w2.2.2.2 - w.2.2.2)) (va_Pc (as.map (mj_val b sz)) (mj_B G b sz w f)) (mj_Q G b sz w2 f2 v) (w2.2.2.1 - w.2.2.1) (w2.2.2.2 - w.2.2.2) (fun q => sz ≤ q) := by
  have hm := mj_mok_all hcy
  unfold mj_mok at hm
  simp only [Bool.and_eq_true, decide_eq_true_eq] at hm
  obtain ⟨⟨⟨⟨⟨⟨hi1, hi2⟩, hi3⟩, hi4⟩, hi5⟩, hi6⟩, -⟩ := hm
  refine Met.ofW (cc := mj_code cy) (maxL := mj_nL cy) (ret := mj_rt cy) hi2 rfl ?_
  intro p e s m args below meth c s₁ B hml hpre
  obtain ⟨rfl, hP, hok, hbz, hX⟩ := hpre
  have hts := atoms_spec (ws := mj_ws cy) B.pre
  have hown : s.vm.findClass (mj_own cy) = some m.cls := by rw [mj_own_nm (by omega)]; exact findClass_of_methodNamed B.named
  have hlocks := B.notSynchronized
  have hret := B.returns
  have hnm := (name_of_methodNamed B.named B.method).1
  obtain ⟨lsA, he, hls⟩ := mj_entry (b := b) (sz := sz) hc ho hlen m
  rw [he]
  have hC : mj_C p s m (as.map (mj_val b sz)).toArray meth c G cy := ⟨B.exec, B.bytes, hml, hown, fun w hw => hts w (List.mem_cons_of_mem _ hw), fun h => by rw [hnm]; exact beq_iff_eq.mp h, hok⟩
  obtain ⟨L, hP1, hD, hL, hz, hwf, hr⟩ := hP
  have hI : mj_I s G b sz w.2.2.1 w.2.2.2 cy w f (mj_pad cy as) [] s.heap [] lsA := ⟨⟨L, hP1, hD, hL, hz, hwf, hr⟩, va_S.rf, hls, (fun v hv => by cases hv), ⟨hz, hwf.1⟩, hbz, hX, Nat.le_refl _, Nat.le_refl _⟩
  have hcn : mj_cn cy ≠ 10 := of_decide_eq_true (List.all_eq_true.mp mj_cn10 cy (List.mem_range.mpr hcy))
  have key := hS cy w f 0 (mj_pad cy as) [] _ hx (R := (headSpec (mj_ws cy) (mj_rm cy (w2.2.2.1 - w.2.2.1) (w2.2.2.2 - w.2.2.2))).room) (below := below) (Q := MQ below (mj_Q G b sz w2 f2 v) (as.map (mj_val b sz)).toArray s (w2.2.2.1 - w.2.2.1) (w2.2.2.2 - w.2.2.2) (fun q => sz ≤ q)) (p := p) (e := e) hC hI (Nat.le_refl _) (Nat.le_refl _) (Nat.le_refl _) (Nat.le_refl _) ?_ ?_
  · unfold mj_Wg at key
    rw [Nat.sub_self, Nat.sub_self] at key
    exact key
  · intro w1 f1 pc1 ls1 st1 i w3 v3 H1 locs1 lsA1 hd hend hreq I1
    have hq : (w2, f2, v) = (w3, f1, v3) := hreq
    cases hq
    have hfree : ∀ q ∈ locs1, sz ≤ q.base := I1.2.1.2.2
    have hdx : ∀ {j : Instr}, i = j → mj_len j = 1 → decode (mj_code cy) pc1 = .ok (j, 1) := fun hj h1 => by subst hj; exact mj_dec_ok hd h1 (by decide)
    unfold mj_end at hend
    split at hend
    · split at hend
      · next x =>
        split at hend
        · next hrt =>
          cases hend
          have hq : ∀ t : State, t.heap = H1 → s.WarmedH t.vm → mj_Q G b sz w2 f2 (some (.inl x)) (as.map (mj_val b sz)).toArray s (.returned (some (.int (Int32.ofInt x)))) t := fun t ht _ => ⟨rfl, by rw [ht]; exact I1.1, I1.2.1.F ht⟩
          rcases hrt with hrt | ⟨hrt, h01⟩
          · exact W.iret B.exec B.bytes (by rw [hret, hrt]) hq hfree (hdx rfl rfl) hlocks
          · exact W.zret (ty := .boolean) B.exec B.bytes (by rw [hret, hrt]) (mj_narrow_i (Or.inr ⟨rfl, h01⟩)).1 hq hfree (hdx rfl rfl) hlocks
        · cases hend
      · cases hend
    · split at hend
      · next a =>
        split at hend
        · next hrt =>
          cases hend
          have hq : ∀ t : State, t.heap = H1 → s.WarmedH t.vm → mj_Q G b sz w2 f2 (some (.inr (.inl a))) (as.map (mj_val b sz)).toArray s (.returned (some (.ref (mj_ad b sz a)))) t := fun t ht _ => ⟨rfl, by rw [ht]; exact I1.1, I1.2.1.F ht⟩
          exact W.aret (rt := .object "ClockZones$Times") B.exec B.bytes (by rw [hret, hrt.2]) (Or.inl ⟨_, rfl⟩) (Or.inr ⟨_, rfl⟩) hq hfree (hdx rfl rfl) hlocks
        · cases hend
      · cases hend
    · split at hend
      · split at hend
        · next hrt =>
          cases hend
          have hq : ∀ t : State, t.heap = H1 → s.WarmedH t.vm → mj_Q G b sz w2 f2 none (as.map (mj_val b sz)).toArray s (.returned none) t := fun t ht _ => ⟨rfl, by rw [ht]; exact I1.1, I1.2.1.F ht⟩
          exact W.vret B.exec B.bytes (by rw [hret, hrt]) hq hfree (hdx rfl rfl) hlocks
        · cases hend
      · cases hend
    · split at hend
      · cases hend
        exact absurd rfl (hv _)
      · cases hend
    · cases hend
  · intro n w1 f1 pc1 ls1 st1 i cy' k as' rest w2' f2' f3' v' v3' H1 locs1 lsA1 hd hc hk
    exact absurd (mj_no8_ok hcn hc) hk
theorem mj_simx (l : Launch) : ∀ n, mj_Sim l n := by
  intro n
  induction n with
  | zero => intro y w f pc ls st r h; simp [mj_exec] at h
  | succ n ih =>
    intro y w f pc ls st r h p e R s m args below meth c Q G b sz H n0 s0 locs lsA hC I hRf hRl hRc hRs hend h8
    obtain ⟨⟨L, hP, hD, hL, hz, hwf, hr⟩, hS, hls, ho, hn, hbz, hX, hn0, hs0⟩ := id I
    have hlo : ∀ v ∈ ls, mj_okv v := hls.2.1
    rw [mj_exec] at h
    cases hnx : mj_nx y w f pc ls st with
    | none => rw [hnx] at h; simp at h
    | some q =>
      rw [hnx] at h
      rcases q with ⟨w', v⟩ | ⟨cy, as, rest, k⟩ | ⟨w', f', pc', ls', st'⟩
      · cases h
        obtain ⟨i, hd, he, -⟩ := mj_nx_end hnx
        exact hend w f pc ls st i w' v H locs lsA hd he rfl I
      · dsimp only at h
        obtain ⟨i, hd, hc, -⟩ := mj_nx_call hnx
        obtain ⟨m1, m2, m3⟩ := mj_callee_mem hc
        cases hx : mj_exec n cy w f 0 (mj_pad cy as) [] with
        | none => rw [hx] at h; simp at h
        | some q =>
          obtain ⟨w2, f2, v⟩ := q
          rw [hx] at h
          dsimp only at h
          obtain ⟨g1, g2, g3⟩ := mj_exec_inv _ _ _ _ _ _ _ _ hx hwf hr (mj_pad_ok (fun v hv => ho v (m1 v hv))) (fun v hv => by cases hv)
          cases hrt : mj_ret k f2 v with
          | none => rw [hrt] at h; simp at h
          | some q =>
            obtain ⟨f3, v3⟩ := q
            rw [hrt] at h
            dsimp only at h
            have hkl : k ≠ 0 → mj_lv w2 k := fun hk => by
              have h3 := m3 hk
              have hlv : mj_lv w k := by unfold mj_lv; rw [h3]; omega
              unfold mj_lv
              rw [g1.2.2.2.2.2.2 k hlv]
              exact hlv
            obtain ⟨j1, j2⟩ := mj_ret_inv (w := w2) g1.1 g1.2.1 hkl g2 hrt g3
            have hst3 : ∀ u ∈ v3.toList ++ rest, mj_okv u := fun u hu => by
              rcases List.mem_append.mp hu with hu | hu
              · exact j2 u (by cases v3 with | none => cases hu | some x => rw [List.mem_singleton.mp hu])
              · exact ho u (m2 u hu)
            obtain ⟨q1, -⟩ := mj_exec_inv _ _ _ _ _ _ _ _ h j1.1 j1.2.1 hlo hst3
            have hmono := q1.2.2.2.2.1
            have hmono2 := q1.2.2.2.2.2.1
            have hc1 : w2.2.2.1 - n0 ≤ R.cells := by omega
            have hc2 : w2.2.2.2 - s0 ≤ R.slots := by omega
            have kk : mj_K p l e R s m args below meth c Q G b sz n0 s0 y w2 f3 (pc + 3) ls (v3.toList ++ rest) := fun H1 locs1 lsA1 I1 => ih y w2 f3 (pc + 3) ls (v3.toList ++ rest) r h hC I1 hRf hRl hRc hRs hend h8
            by_cases hk : k = 0
            · subst hk
              have hv : (∀ k, v ≠ some (.inr (.inr (.inr k)))) ∧ f3 = f2 ∧ v3 = v := by
                cases v with
                | none =>
                  change some (f2, (none : Option mj_V)) = some (f3, v3) at hrt
                  cases hrt
                  exact ⟨fun k hk => (by cases hk), rfl, rfl⟩
                | some u =>
                  rcases u with u | u | u | u
                  · change some (f2, (some (.inl u) : Option mj_V)) = some (f3, v3) at hrt
                    cases hrt
                    exact ⟨fun k hk => (by cases hk), rfl, rfl⟩
                  · change some (f2, (some (.inr (.inl u)) : Option mj_V)) = some (f3, v3) at hrt
                    cases hrt
                    exact ⟨fun k hk => (by cases hk), rfl, rfl⟩
                  · change some (f2, (some (.inr (.inr (.inl u))) : Option mj_V)) = some (f3, v3) at hrt
                    cases hrt
                    exact ⟨fun k hk => (by cases hk), rfl, rfl⟩
                  · change (none : Option (mj_F × Option mj_V)) = some (f3, v3) at hrt
                    cases hrt
              obtain ⟨hv, rfl, rfl⟩ := hv
              obtain ⟨-, hcy, -, hlen, -, hcat, -⟩ := mj_callee_ok hwf hc
              have hm := mj_mok_all hcy
              unfold mj_mok at hm
              simp only [Bool.and_eq_true, decide_eq_true_eq] at hm
              obtain ⟨⟨⟨⟨⟨⟨hi1, hi2⟩, hi3⟩, hi4⟩, hi5⟩, hi6⟩, -⟩ := hm
              exact mj_call0 hC I hd hc ⟨g1.2.2.2.2.1, g1.2.2.2.2.2.1⟩ (mj_met ih hcy hx hv hcat (fun v hv => ho v (m1 v hv)) (by omega) G b sz) hRf hRl hc1 hc2 g1.2.2.1 g1.2.2.2.1 g2 kk
            · exact h8 n w f pc ls st i cy k as rest w2 f2 f3 v v3 H locs lsA hd hc hk hx hrt I hc1 hc2 kk
      · dsimp only at h
        obtain ⟨i, hd, hs, -⟩ := mj_nx_stp hnx
        obtain ⟨j1, j2, j3⟩ := mj_stp_inv hwf hr hlo ho hs
        obtain ⟨q1, -⟩ := mj_exec_inv _ _ _ _ _ _ _ _ h j1.1 j1.2.1 j2 j3
        have hmono := q1.2.2.2.2.1
        have hmono2 := q1.2.2.2.2.2.1
        exact mj_step hC I hd hs (by omega) (by omega) (by omega) (by omega) (fun H1 locs1 lsA1 I1 => ih y w' f' pc' ls' st' r h hC I1 hRf hRl hRc hRs hend h8)
