/-! What the tables of our machine say stands in the claim's tables: decided by the kernel. -/
def mj_own (y : Nat) : String := mj_owns.getD (mj_cn y) ""
def mj_typ : List (Nat → FieldType) := [tyX0, tyX1, tyX2, tyX3, tyX4, tyX5, tyX6, tyX7, tyX8, tyX9]
def mj_ty (ci : Nat) : Nat → FieldType := mj_typ.getD ci tyX0
/-- a word of a nest link: not among those that stay by themselves -/
def mj_nst : Cond → Bool
  | .fieldLinkNest .. => true
  | .methodLinkNest .. => true
  | _ => false
theorem mj_t2 {w : Cond} {q : Nat} (h : lw_tbl[q]? = some w) (hg : goodWord w = true) : w ∈ lw_t2 := List.mem_filter.mpr ⟨List.mem_of_getElem? h, hg⟩
/-- a field of a class, and the link to it -/
def mj_fok (cn : Nat) (e : Nat × Nat × Nat × Nat) : Bool := match mj_cl[e.2.1]? with
  | some (_, T, N) => decide (e.2.2.1 < N) && (match lw_tbl[e.2.2.2]? with
    | some (.fieldLink own i r n d) => own == mj_owns.getD cn "" && i == e.1 && r == (T e.2.2.1).1 && n == (T e.2.2.1).2.1 && d == (T e.2.2.1).2.2.1
    | some (.fieldLinkNest own i r n d _) => own == mj_owns.getD cn "" && i == e.1 && r == (T e.2.2.1).1 && n == (T e.2.2.1).2.1 && d == (T e.2.2.1).2.2.1
    | _ => false)
  | none => false
theorem mj_fok_all : ((List.range 26).all fun cn => (mj_fts.getD cn []).all (mj_fok cn)) = true := by decide +kernel
theorem mj_look_mem {α : Type} : ∀ (t : List (Nat × α)) (i : Nat) (v : α), mj_look t i = some v → (i, v) ∈ t := by
  intro t
  induction t with
  | nil => intro i v h; simp [mj_look] at h
  | cons q t ih =>
    intro i v h
    obtain ⟨k, x⟩ := q
    unfold mj_look at h
    by_cases hk : k = i
    · rw [if_pos hk] at h
      cases h
      subst hk
      exact List.mem_cons_self
    · rw [if_neg hk] at h
      exact List.mem_cons_of_mem _ (ih i v h)
theorem mj_getD_lt {α : Type} {l : List α} {n : Nat} {d : α} (h : l.getD n d ≠ d) : n < l.length := by
  rcases Nat.lt_or_ge n l.length with q | q
  · exact q
  · exact absurd (by rw [List.getD_eq_getElem?_getD, List.getElem?_eq_none q]; rfl) h
theorem mj_fts_len : mj_fts.length = 26 := by decide +kernel
theorem mj_cts_len : mj_cts.length = 26 := by decide +kernel
theorem mj_kts_len : mj_kts.length = 26 := by decide +kernel
theorem mj_look_lt {α : Type} {l : List (List (Nat × α))} {cn idx : Nat} {v : α} (h : mj_look (l.getD cn []) idx = some v) : cn < l.length := by
  refine mj_getD_lt (d := []) fun q => ?_
  rw [q] at h
  simp [mj_look] at h
/-- the field behind an index -/
theorem mj_fl_ok {cn idx ci k q : Nat} (h : mj_fl cn idx = some (ci, k, q)) : ∃ (C : String) (T : u_T) (N : Nat), mj_cl[ci]? = some (C, T, N) ∧ k < N ∧ ((lw_tbl[q]? = some (.fieldLink (mj_owns.getD cn "") idx (T k).1 (T k).2.1 (T k).2.2.1)) ∨ ∃ host, lw_tbl[q]? = some (.fieldLinkNest (mj_owns.getD cn "") idx (T k).1 (T k).2.1 (T k).2.2.1 host)) := by
  have hm := mj_look_mem _ _ _ h
  have hl := mj_look_lt h
  rw [mj_fts_len] at hl
  have h1 := List.all_eq_true.mp (List.all_eq_true.mp mj_fok_all cn (List.mem_range.mpr hl)) _ hm
  unfold mj_fok at h1
  dsimp only at h1
  cases hc : mj_cl[ci]? with
  | none => rw [hc] at h1; cases h1
  | some r =>
    obtain ⟨C, T, N⟩ := r
    rw [hc] at h1
    dsimp only at h1
    rw [Bool.and_eq_true] at h1
    refine ⟨C, T, N, rfl, of_decide_eq_true h1.1, ?_⟩
    cases hq : lw_tbl[q]? with
    | none => rw [hq] at h1; cases h1.2
    | some w =>
      rw [hq] at h1
      cases w with
      | fieldLink own i r n d =>
        left
        have h2 := h1.2
        simp only [Bool.and_eq_true, beq_iff_eq] at h2
        obtain ⟨⟨⟨⟨a1, a2⟩, a3⟩, a4⟩, a5⟩ := h2
        subst a1 a2 a3 a4 a5
        rfl
      | fieldLinkNest own i r n d host =>
        right
        have h2 := h1.2
        simp only [Bool.and_eq_true, beq_iff_eq] at h2
        obtain ⟨⟨⟨⟨a1, a2⟩, a3⟩, a4⟩, a5⟩ := h2
        subst a1 a2 a3 a4 a5
        exact ⟨host, rfl⟩
      | _ => cases h1.2
def mj_kok (cn : Nat) (e : Nat × Int32 × Nat) : Bool := match lw_tbl[e.2.2]? with
  | some (.constant own i v) => own == mj_owns.getD cn "" && i == e.1 && decide (v = e.2.1)
  | _ => false
theorem mj_kok_all : ((List.range 26).all fun cn => (mj_kts.getD cn []).all (mj_kok cn)) = true := by decide +kernel
theorem mj_kl_ok {cn idx q : Nat} {v : Int32} (h : mj_kl cn idx = some (v, q)) : lw_tbl[q]? = some (.constant (mj_owns.getD cn "") idx v) := by
  have hm := mj_look_mem _ _ _ h
  have hl := mj_look_lt h
  rw [mj_kts_len] at hl
  have h1 := List.all_eq_true.mp (List.all_eq_true.mp mj_kok_all cn (List.mem_range.mpr hl)) _ hm
  unfold mj_kok at h1
  dsimp only at h1
  cases hq : lw_tbl[q]? with
  | none => rw [hq] at h1; cases h1
  | some w =>
    rw [hq] at h1
    cases w with
    | constant own i v =>
      simp only [Bool.and_eq_true, beq_iff_eq, decide_eq_true_eq] at h1
      obtain ⟨⟨a1, a2⟩, a3⟩ := h1
      subst a1 a2 a3
      rfl
    | _ => cases h1
/-- the classes: their words, names, types -/
theorem mj_cl_in : (mj_cl.all fun q => (u_ws q.1 q.2.1 q.2.2).all fun w => decide (w ∈ lw_tbl) && goodWord w) = true := by decide +kernel
theorem mj_hin {ci : Nat} {C : String} {T : u_T} {N : Nat} (h : mj_cl[ci]? = some (C, T, N)) : ∀ w ∈ u_ws C T N, w ∈ lw_t2 := by
  intro w hw
  have h1 := List.all_eq_true.mp (List.all_eq_true.mp mj_cl_in _ (List.mem_of_getElem? h)) w hw
  rw [Bool.and_eq_true] at h1
  exact List.mem_filter.mpr ⟨of_decide_eq_true h1.1, h1.2⟩
theorem mj_cl_cases {ci : Nat} {r : vw_C} (h : mj_cl[ci]? = some r) {P : Nat → vw_C → Prop} (h0 : P 0 (RX0, TX0, 10)) (h1 : P 1 (RX1, TX1, 6)) (h2 : P 2 (RX2, TX2, 2)) (h3 : P 3 (RX3, TX3, 18)) (h4 : P 4 (RX4, TX4, 10)) (h5 : P 5 (RX5, TX5, 8)) (h6 : P 6 (RX6, TX6, 1)) (h7 : P 7 (RX7, TX7, 3)) (h8 : P 8 (RX8, TX8, 11)) (h9 : P 9 (RX9, TX9, 61)) : P ci r := by
  match ci, h with
  | 0, h => cases h; exact h0
  | 1, h => cases h; exact h1
  | 2, h => cases h; exact h2
  | 3, h => cases h; exact h3
  | 4, h => cases h; exact h4
  | 5, h => cases h; exact h5
  | 6, h => cases h; exact h6
  | 7, h => cases h; exact h7
  | 8, h => cases h; exact h8
  | 9, h => cases h; exact h9
  | k + 10, h => simp [mj_cl] at h
theorem mj_cl_nf {ci : Nat} {C : String} {T : u_T} {N : Nat} (h : mj_cl[ci]? = some (C, T, N)) : mj_nf ci = N ∧ ci < 10 := by
  refine mj_cl_cases (P := fun ci r => mj_nf ci = r.2.2 ∧ ci < 10) h ?_ ?_ ?_ ?_ ?_ ?_ ?_ ?_ ?_ ?_ <;> exact ⟨rfl, by decide⟩
theorem mj_cl_nm {ci : Nat} {C : String} {T : u_T} {N : Nat} (h : mj_cl[ci]? = some (C, T, N)) : ∀ a, a < N → ∀ b, b < N → a ≠ b → (T a).2.1 ≠ (T b).2.1 :=
  mj_cl_cases (P := fun _ r => ∀ a, a < r.2.2 → ∀ b, b < r.2.2 → a ≠ b → (r.2.1 a).2.1 ≠ (r.2.1 b).2.1) h nmX0 nmX1 nmX2 nmX3 nmX4 nmX5 nmX6 nmX7 nmX8 nmX9
theorem mj_cl_ty {ci : Nat} {C : String} {T : u_T} {N : Nat} (h : mj_cl[ci]? = some (C, T, N)) : ∀ k, k < N → parseFieldDescriptor (T k).2.2.1 = some (mj_ty ci k) :=
  mj_cl_cases (P := fun ci r => ∀ k, k < r.2.2 → parseFieldDescriptor (r.2.1 k).2.2.1 = some (mj_ty ci k)) h tyX0_ok tyX1_ok tyX2_ok tyX3_ok tyX4_ok tyX5_ok tyX6_ok tyX7_ok tyX8_ok tyX9_ok
/-- a type's kind -/
def mj_tk : FieldType → Nat
  | .int => 0
  | .boolean => 1
  | .object _ => 2
  | .array _ => 2
  | _ => 5
theorem mj_tk_all : ((List.range 10).all fun ci => (List.range (mj_nf ci)).all fun k => mj_tk (mj_ty ci k) == mj_kind ci k) = true := by decide +kernel
theorem mj_tk_of {ci k : Nat} (h : ci < 10) (hk : k < mj_nf ci) : mj_tk (mj_ty ci k) = mj_kind ci k := by
  have h1 := List.all_eq_true.mp (List.all_eq_true.mp mj_tk_all ci (List.mem_range.mpr h)) k (List.mem_range.mpr hk)
  exact beq_iff_eq.mp h1
theorem mj_kind_le {ci k : Nat} (h : ci < 10) (hk : k < mj_nf ci) : mj_kind ci k = 0 ∨ mj_kind ci k = 1 ∨ mj_kind ci k = 2 := by
  have := mj_tk_all
  have h2 : ((List.range 10).all fun ci => (List.range (mj_nf ci)).all fun k => decide (mj_kind ci k < 3)) = true := by decide +kernel
  have h1 := of_decide_eq_true (List.all_eq_true.mp (List.all_eq_true.mp h2 ci (List.mem_range.mpr h)) k (List.mem_range.mpr hk))
  omega
theorem mj_narrow_i {ty : FieldType} {v : Int} (h : mj_tk ty = 0 ∨ mj_tk ty = 1 ∧ (v = 0 ∨ v = 1)) : narrow ty (.int (Int32.ofInt v)) = .int (Int32.ofInt v) ∧ fits ty (.int (Int32.ofInt v)) = true := by
  cases ty <;> simp [mj_tk] at h <;> first | exact ⟨rfl, rfl⟩ | (rcases h with rfl | rfl <;> exact ⟨rfl, rfl⟩)
theorem mj_narrow_r {ty : FieldType} {a : Nat} (h : mj_tk ty = 2) : narrow ty (.ref a) = .ref a ∧ fits ty (.ref a) = true := by
  cases ty <;> simp [mj_tk] at h <;> exact ⟨rfl, rfl⟩
theorem mj_default {ty : FieldType} {k : Nat} (h : mj_tk ty = k) (hk : k = 0 ∨ k = 1 ∨ k = 2) : defaultValue ty = if k = 2 then .null else .int 0 := by
  subst h
  cases ty <;> simp [mj_tk] at hk ⊢ <;> rfl
/-- what a state has beside its heap -/
def mj_Ok (G : mj_G) (U : State) : Prop := va_K G.1 mj_cl (mj_tys G.2) U ∧ va_AO mj_zn U ∧ ∀ w ∈ lw_tbl, mj_nst w = true → va_Nw w U
theorem mj_Ok.warm {G : mj_G} {s U : State} (hW : s.WarmedH U.vm) (h : mj_Ok G s) : mj_Ok G U := by
  refine ⟨va_K.moved hW.alike h.1, va_AO.moved hW.alike h.2.1, fun w hw hn => ?_⟩
  have h1 := h.2.2 w hw hn
  cases w with
  | fieldLinkNest a i b n d h => exact va_Nw.warmF hW h1
  | methodLinkNest a i x h => exact va_Nw.warmM hW h1
  | _ => cases hn
theorem mj_Ok.same {G : mj_G} {s U : State} (hv : s.vm = U.vm) (h : mj_Ok G s) : mj_Ok G U := by
  refine ⟨va_K.moved (by rw [hv]; exact Vm.Alike.refl _) h.1, va_AO.moved (by rw [hv]; exact Vm.Alike.refl _) h.2.1, fun w hw hn => ?_⟩
  have h1 := h.2.2 w hw hn
  cases w with
  | fieldLinkNest a i b n d h => exact va_Nw.same rfl hv h1
  | methodLinkNest a i x h => exact va_Nw.same rfl hv h1
  | _ => cases hn
