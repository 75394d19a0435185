/-! One step of ours is one step of the real machine. -/
def mj_C (p : Program) (s : State) (m : MethodId) (args : Array Value) (meth : Method) (c : Code) (G : mj_G) (y : Nat) : Prop :=
  p.tables.exec = Jvm.exec ∧ c.code = mj_code y ∧ c.maxLocals = mj_nL y ∧ s.vm.findClass (mj_own y) = some m.cls ∧ (∀ w ∈ lw_t2, w.before args s = true) ∧ (mj_isInit y = true → meth.name = "<init>") ∧ mj_Ok G s
def mj_Ls (b sz y : Nat) (ls : List mj_V) (lsA : Array Slot) : Prop :=
  ls.length = mj_nL y ∧ (∀ v ∈ ls, mj_okv v) ∧ ∃ lv : List (Nat × Value), lv_has lsA (mj_nL y) lv ∧ ∀ (k : Nat) (v : mj_V), ls[k]? = some v → (∀ u, v ≠ .inr (.inr (.inr u))) → (k, mj_val b sz v) ∈ lv
def mj_I (s : State) (G : mj_G) (b sz : Nat) (n0 s0 y : Nat) (w : mj_W) (f : mj_F) (ls st : List mj_V) (H : Heap) (locs : List Loc) (lsA : Array Slot) : Prop :=
  mj_P G b sz w f H ∧ va_S (mj_A sz) s.heap H locs ∧ mj_Ls b sz y ls lsA ∧ (∀ v ∈ st, mj_okv v) ∧ (s.heap.size + 2 = sz + n0 ∧ 2 ≤ n0) ∧ b < sz ∧ ((w.1 1).1 = 104 → va_X b (w.1 1).2 (fun j => Int32.ofInt (f 1 j)) s s.heap) ∧ n0 ≤ w.2.2.1 ∧ s0 ≤ w.2.2.2
theorem mj_dec_ex {y pc : Nat} {i : Instr} (h : mj_dec y pc = some i) : ∃ n, decode (mj_code y) pc = .ok (i, n) ∧ (mj_len i = 0 ∨ n = mj_len i) := by
  unfold mj_dec at h
  cases hd : decode (mj_code y) pc with
  | error x => rw [hd] at h; cases h
  | ok q =>
    obtain ⟨j, n⟩ := q
    rw [hd] at h
    dsimp only at h
    by_cases hc : mj_len j = 0 ∨ n = mj_len j
    · rw [if_pos hc] at h
      cases h
      exact ⟨n, rfl, hc⟩
    · rw [if_neg hc] at h
      cases h
theorem mj_dec_ok {y pc : Nat} {i : Instr} {n : Nat} (h : mj_dec y pc = some i) (hn : mj_len i = n) (h0 : n ≠ 0) : decode (mj_code y) pc = .ok (i, n) := by
  obtain ⟨k, hk, h1⟩ := mj_dec_ex h
  rcases h1 with h1 | h1
  · exact absurd (hn.symm.trans h1) h0
  · rw [hk, h1, hn]
theorem mj_Ls.get {b sz y : Nat} {ls : List mj_V} {lsA : Array Slot} (h : mj_Ls b sz y ls lsA) {k : Nat} {v : mj_V} (hk : ls[k]? = some v) (hv : ∀ u, v ≠ .inr (.inr (.inr u))) : lsA[k]? = some (.val (mj_val b sz v)) ∧ mj_okv v := by
  obtain ⟨-, h2, lv, h3, h4⟩ := h
  exact ⟨h3.2.2 _ (h4 k v hk hv), h2 v (List.mem_of_getElem? hk)⟩
theorem mj_set_len (ls : List mj_V) (k : Nat) (v : mj_V) : (mj_set ls k v).length = ls.length := by
  unfold mj_set
  rw [List.length_set]
  cases k with
  | zero => rfl
  | succ j =>
    dsimp only
    split
    · rw [List.length_set]
    · rfl
theorem mj_set_get {ls : List mj_V} {k j : Nat} {v u : mj_V} (h : (mj_set ls k v)[j]? = some u) (hu : ∀ x, u ≠ .inr (.inr (.inr x))) : (j = k ∧ u = v) ∨ (j ≠ k ∧ ls[j]? = some u ∧ (j + 1 = k → ∀ x, u ≠ .inr (.inr (.inl x)))) := by
  unfold mj_set at h
  by_cases hj : j = k
  · subst hj
    left
    have hl := (List.getElem?_eq_some_iff.mp h).1
    rw [List.length_set] at hl
    rw [List.getElem?_set_self hl] at h
    exact ⟨rfl, (Option.some.inj h).symm⟩
  · right
    rw [List.getElem?_set_ne (Ne.symm hj)] at h
    refine ⟨hj, ?_⟩
    cases k with
    | zero => exact ⟨h, fun q => by omega⟩
    | succ i =>
      dsimp only at h
      split at h
      · next x hx =>
        by_cases hji : j = i
        · subst hji
          have hl := (List.getElem?_eq_some_iff.mp h).1
          rw [List.length_set] at hl
          rw [List.getElem?_set_self hl] at h
          exact absurd (Option.some.inj h).symm (hu 0)
        · rw [List.getElem?_set_ne (Ne.symm hji)] at h
          exact ⟨h, fun q => by omega⟩
      · next hx =>
        refine ⟨h, fun q x hux => ?_⟩
        have : j = i := by omega
        subst this
        exact hx x (by rw [h, hux])
theorem mj_set_mem {ls : List mj_V} {k : Nat} {v u : mj_V} (h : u ∈ mj_set ls k v) (hv : mj_okv v) (hl : ∀ u ∈ ls, mj_okv u) : mj_okv u := by
  obtain ⟨j, hj⟩ := List.getElem?_of_mem h
  by_cases hu : ∃ x, u = .inr (.inr (.inr x))
  · obtain ⟨x, rfl⟩ := hu
    exact trivial
  · rcases mj_set_get hj (fun x hx => hu ⟨x, hx⟩) with ⟨-, rfl⟩ | ⟨-, h1, -⟩
    · exact hv
    · exact hl u (List.mem_of_getElem? h1)
theorem mj_cat1 {b sz : Nat} {u : mj_V} (h : ∀ x, u ≠ .inr (.inr (.inl x))) : (mj_val b sz u).category = 1 := by
  rcases u with u | u | u | u
  · rfl
  · rfl
  · exact absurd rfl (h u)
  · rfl
/-- a word is stored in a local -/
theorem mj_Ls.set {b sz y : Nat} {ls : List mj_V} {lsA lsB : Array Slot} {lv : List (Nat × Value)} (h : ls.length = mj_nL y) (h2 : ∀ v ∈ ls, mj_okv v) (h4 : ∀ (k : Nat) (v : mj_V), ls[k]? = some v → (∀ u, v ≠ .inr (.inr (.inr u))) → (k, mj_val b sz v) ∈ lv) {k : Nat} {v : mj_V} (hv : mj_okv v)
    (hB : lv_has lsB (mj_nL y) ((k, mj_val b sz v) :: lv.filter (fun q => !(q.1 == k) && !(q.1 + 1 == k && q.2.category == 2)))) : mj_Ls b sz y (mj_set ls k v) lsB := by
  refine ⟨by rw [mj_set_len]; exact h, fun u hu => mj_set_mem hu hv h2, _, hB, fun j u hj hu => ?_⟩
  rcases mj_set_get hj hu with ⟨rfl, rfl⟩ | ⟨h5, h6, h7⟩
  · exact List.mem_cons_self
  · refine List.mem_cons_of_mem _ (List.mem_filter.mpr ⟨h4 j u h6 hu, ?_⟩)
    have h8 : (j == k) = false := by simpa using h5
    by_cases h9 : j + 1 = k
    · simp [h8, mj_cat1 (h7 h9)]
    · have : (j + 1 == k) = false := by simpa using h9
      simp [h8, this]
theorem mj_Ls.setL {b sz y : Nat} {ls : List mj_V} {lsA lsB : Array Slot} {lv : List (Nat × Value)} (h : ls.length = mj_nL y) (h2 : ∀ v ∈ ls, mj_okv v) (h4 : ∀ (k : Nat) (v : mj_V), ls[k]? = some v → (∀ u, v ≠ .inr (.inr (.inr u))) → (k, mj_val b sz v) ∈ lv) {k : Nat} {v : mj_V} (hv : mj_okv v)
    (hB : lv_has lsB (mj_nL y) ((k, mj_val b sz v) :: lv.filter (fun q => !(q.1 == k) && (!(q.1 == k + 1) && !(q.1 + 1 == k && q.2.category == 2))))) : mj_Ls b sz y ((mj_set ls k v).set (k + 1) (.inr (.inr (.inr 0)))) lsB := by
  refine ⟨by rw [List.length_set, mj_set_len]; exact h, fun u hu => ?_, _, hB, fun j u hj hu => ?_⟩
  · rcases List.mem_or_eq_of_mem_set hu with h5 | rfl
    · exact mj_set_mem h5 hv h2
    · exact trivial
  · by_cases hjk : j = k + 1
    · subst hjk
      have hl := (List.getElem?_eq_some_iff.mp hj).1
      rw [List.length_set] at hl
      rw [List.getElem?_set_self hl] at hj
      exact absurd (Option.some.inj hj).symm (hu 0)
    · rw [List.getElem?_set_ne (Ne.symm hjk)] at hj
      rcases mj_set_get hj hu with ⟨rfl, rfl⟩ | ⟨h5, h6, h7⟩
      · exact List.mem_cons_self
      · refine List.mem_cons_of_mem _ (List.mem_filter.mpr ⟨h4 j u h6 hu, ?_⟩)
        have h8 : (j == k) = false := by simpa using h5
        have h10 : (j == k + 1) = false := by simpa using hjk
        by_cases h9 : j + 1 = k
        · simp [h8, h10, mj_cat1 (h7 h9)]
        · have : (j + 1 == k) = false := by simpa using h9
          simp [h8, h10, this]
section MJ
variable {p : Program} {l : Launch} {e : Env} {R : Room} {s : State} {m : MethodId} {args : Array Value} {below : List Frame} {meth : Method} {c : Code} {Q : State → Prop} {G : mj_G} {b sz : Nat} {H : Heap} {n0 s0 y : Nat} {w w' : mj_W} {f f' : mj_F} {ls ls' st st' : List mj_V} {locs : List Loc} {lsA : Array Slot} {pc pc' : Nat}
/-- the real machine, at our state -/
def mj_Wg (p : Program) (l : Launch) (e : Env) (R : Room) (s : State) (m : MethodId) (args : Array Value) (below : List Frame) (meth : Method) (c : Code) (Q : State → Prop) (b sz n0 s0 : Nat) (w : mj_W) (H : Heap) (locs : List Loc) (pc : Nat) (lsA : Array Slot) (st : List mj_V) : Prop :=
  W p l e R s m args below meth c H locs (w.2.2.1 - n0) (w.2.2.2 - s0) Q (F0 m pc lsA (st.map (mj_val b sz)))
theorem mj_I_st (I : mj_I s G b sz n0 s0 y w f ls st H locs lsA) (h : ∀ v ∈ st', mj_okv v) : mj_I s G b sz n0 s0 y w f ls st' H locs lsA := by
  obtain ⟨a1, a2, a3, a4, a5⟩ := I
  exact ⟨a1, a2, a3, h, a5⟩
theorem mj_jmp_ok {off : Int} (h : mj_jmp w f pc off ls st = some (w', f', pc', ls', st')) : (pc : Int) + off = (pc' : Int) ∧ w' = w ∧ f' = f ∧ ls' = ls ∧ st' = st := by
  unfold mj_jmp mj_j at h
  by_cases h0 : 0 ≤ (pc : Int) + off
  · rw [if_pos h0] at h
    cases h
    exact ⟨by omega, rfl, rfl, rfl, rfl⟩
  · rw [if_neg h0] at h
    cases h
/-- a branch, once its row is known -/
theorem mj_br {c0 : Prop} [Decidable c0] {off : Int} {r : List mj_V} {d : Prop} (hcd : d ↔ c0) (I : mj_I s G b sz n0 s0 y w f ls r H locs lsA) (hs : mj_if c0 w f pc off ls r = some (w', f', pc', ls', st'))
    (kk : ∀ H1 locs1 lsA1, mj_I s G b sz n0 s0 y w' f' ls' st' H1 locs1 lsA1 → mj_Wg p l e R s m args below meth c Q b sz n0 s0 w' H1 locs1 pc' lsA1 st')
    (row : ∀ tgt : Nat, (pc : Int) + off = (tgt : Int) → (d → mj_Wg p l e R s m args below meth c Q b sz n0 s0 w H locs tgt lsA r) → (¬ d → mj_Wg p l e R s m args below meth c Q b sz n0 s0 w H locs (pc + 3) lsA r) → mj_Wg p l e R s m args below meth c Q b sz n0 s0 w H locs pc lsA st) : mj_Wg p l e R s m args below meth c Q b sz n0 s0 w H locs pc lsA st := by
  unfold mj_if at hs
  by_cases hc : c0
  · rw [if_pos hc] at hs
    obtain ⟨h1, rfl, rfl, rfl, rfl⟩ := mj_jmp_ok hs
    exact row pc' h1 (fun _ => kk _ _ _ I) (fun hd => absurd (hcd.mpr hc) hd)
  · rw [if_neg hc] at hs
    by_cases h0 : 0 ≤ (pc : Int) + off
    · rw [if_pos h0] at hs
      cases hs
      exact row ((pc : Int) + off).toNat (by omega) (fun hd => absurd (hcd.mp hd) hc) (fun _ => kk _ _ _ I)
    · rw [if_neg h0] at hs
      cases hs
end MJ
