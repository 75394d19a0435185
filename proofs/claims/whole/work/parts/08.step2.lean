section MJ
variable {p : Program} {l : Launch} {e : Env} {R : Room} {s : State} {m : MethodId} {args : Array Value} {below : List Frame} {meth : Method} {c : Code} {Q : State → Prop} {G : mj_G} {b sz : Nat} {H : Heap} {n0 s0 y : Nat} {w w' : mj_W} {f f' : mj_F} {ls ls' st st' : List mj_V} {locs : List Loc} {lsA : Array Slot} {pc pc' : Nat}
theorem mj_cmp_of {a b : Int} (ha : mj_okv (.inr (.inr (.inl a)))) (hb : mj_okv (.inr (.inr (.inl b)))) : lg_cmp (Int64.ofInt a) (Int64.ofInt b) = Int32.ofInt (mj_cmp a b) := by
  unfold lg_cmp mj_cmp
  have h1 : Int64.ofInt a > Int64.ofInt b ↔ b < a := by rw [gt_iff_lt, Int64.lt_iff_toInt_lt, mj_to64 ha.1 ha.2, mj_to64 hb.1 hb.2]
  have h2 : Int64.ofInt a = Int64.ofInt b ↔ a = b := by rw [← Int64.toInt_inj, mj_to64 ha.1 ha.2, mj_to64 hb.1 hb.2]
  by_cases h : b < a
  · rw [if_pos (h1.mpr h), if_neg (by omega), if_neg (by omega)]
    rfl
  · rw [if_neg (fun q => h (h1.mp q))]
    by_cases h3 : a = b
    · rw [if_pos (h2.mpr h3), if_neg (by omega), if_pos h3]
      rfl
    · rw [if_neg (fun q => h3 (h2.mp q)), if_pos (by omega)]
      rfl
theorem mj_cmp_rg (a b : Int) : mj_rg (mj_cmp a b) := by
  unfold mj_cmp mj_rg
  split
  · omega
  · split <;> omega
/-- the continuation of a step -/
abbrev mj_K (p : Program) (l : Launch) (e : Env) (R : Room) (s : State) (m : MethodId) (args : Array Value) (below : List Frame) (meth : Method) (c : Code) (Q : State → Prop) (G : mj_G) (b sz : Nat) (n0 s0 y : Nat) (w' : mj_W) (f' : mj_F) (pc' : Nat) (ls' st' : List mj_V) : Prop :=
  ∀ H1 locs1 lsA1, mj_I s G b sz n0 s0 y w' f' ls' st' H1 locs1 lsA1 → mj_Wg p l e R s m args below meth c Q b sz n0 s0 w' H1 locs1 pc' lsA1 st'
theorem mj_s_ldi {k : Nat} {d : Nat} (hs : mj_ldi w f d ls st k = some (w', f', pc', ls', st')) (I : mj_I s G b sz n0 s0 y w f ls st H locs lsA) (kk : mj_K p l e R s m args below meth c Q G b sz n0 s0 y w' f' pc' ls' st')
    (row : ∀ x : Int32, lsA[k]? = some (.val (.int x)) → W p l e R s m args below meth c H locs (w.2.2.1 - n0) (w.2.2.2 - s0) Q (F0 m d lsA (.int x :: st.map (mj_val b sz))) → mj_Wg p l e R s m args below meth c Q b sz n0 s0 w H locs pc lsA st) : mj_Wg p l e R s m args below meth c Q b sz n0 s0 w H locs pc lsA st := by
  unfold mj_ldi at hs
  split at hs
  · next v hv =>
    cases hs
    obtain ⟨h1, h2⟩ := I.2.2.1.get hv (fun u q => by cases q)
    exact row _ h1 (kk _ _ _ (mj_I_st I (List.forall_mem_cons.mpr ⟨h2, I.2.2.2.1⟩)))
  · cases hs
theorem mj_s_ldl {k : Nat} {d : Nat} (hs : mj_ldl w f d ls st k = some (w', f', pc', ls', st')) (I : mj_I s G b sz n0 s0 y w f ls st H locs lsA) (kk : mj_K p l e R s m args below meth c Q G b sz n0 s0 y w' f' pc' ls' st')
    (row : ∀ x : Int64, lsA[k]? = some (.val (.long x)) → W p l e R s m args below meth c H locs (w.2.2.1 - n0) (w.2.2.2 - s0) Q (F0 m d lsA (.long x :: st.map (mj_val b sz))) → mj_Wg p l e R s m args below meth c Q b sz n0 s0 w H locs pc lsA st) : mj_Wg p l e R s m args below meth c Q b sz n0 s0 w H locs pc lsA st := by
  unfold mj_ldl at hs
  split at hs
  · next v hv =>
    cases hs
    obtain ⟨h1, h2⟩ := I.2.2.1.get hv (fun u q => by cases q)
    exact row _ h1 (kk _ _ _ (mj_I_st I (List.forall_mem_cons.mpr ⟨h2, I.2.2.2.1⟩)))
  · cases hs
theorem mj_s_lda {k : Nat} {d : Nat} (hs : mj_lda w f d ls st k = some (w', f', pc', ls', st')) (I : mj_I s G b sz n0 s0 y w f ls st H locs lsA) (kk : mj_K p l e R s m args below meth c Q G b sz n0 s0 y w' f' pc' ls' st')
    (row : ∀ x : Nat, lsA[k]? = some (.val (.ref x)) → W p l e R s m args below meth c H locs (w.2.2.1 - n0) (w.2.2.2 - s0) Q (F0 m d lsA (.ref x :: st.map (mj_val b sz))) → mj_Wg p l e R s m args below meth c Q b sz n0 s0 w H locs pc lsA st) : mj_Wg p l e R s m args below meth c Q b sz n0 s0 w H locs pc lsA st := by
  unfold mj_lda at hs
  split at hs
  · next v hv =>
    cases hs
    obtain ⟨h1, h2⟩ := I.2.2.1.get hv (fun u q => by cases q)
    exact row _ h1 (kk _ _ _ (mj_I_st I (List.forall_mem_cons.mpr ⟨h2, I.2.2.2.1⟩)))
  · cases hs
/-- a store, given its row -/
theorem mj_s_sto {k d : Nat} {v : mj_V} {r : List mj_V} (hk : k < ls.length) (I : mj_I s G b sz n0 s0 y w f ls (v :: r) H locs lsA) (kk : mj_K p l e R s m args below meth c Q G b sz n0 s0 y w f d (mj_set ls k v) r)
    (row : ∀ lv : List (Nat × Value), lv_has lsA (mj_nL y) lv → k < mj_nL y → (∀ lsB : Array Slot, lv_has lsB (mj_nL y) ((k, mj_val b sz v) :: lv.filter (fun q => !(q.1 == k) && !(q.1 + 1 == k && q.2.category == 2))) → W p l e R s m args below meth c H locs (w.2.2.1 - n0) (w.2.2.2 - s0) Q (F0 m d lsB (r.map (mj_val b sz)))) → mj_Wg p l e R s m args below meth c Q b sz n0 s0 w H locs pc lsA (v :: r)) : mj_Wg p l e R s m args below meth c Q b sz n0 s0 w H locs pc lsA (v :: r) := by
  obtain ⟨a1, a2, ⟨b1, b2, lv, b3, b4⟩, a4, a5⟩ := I
  have ho := List.forall_mem_cons.mp a4
  refine row lv b3 (by rw [← b1]; exact hk) (fun lsB hB => ?_)
  exact kk _ _ _ ⟨a1, a2, mj_Ls.set (lsA := lsA) b1 b2 b4 ho.1 hB, ho.2, a5⟩
theorem mj_s_b2 {op : Int → Int → Int} (hs : mj_b2 w f pc ls st op = some (w', f', pc', ls', st')) (I : mj_I s G b sz n0 s0 y w f ls st H locs lsA) (kk : mj_K p l e R s m args below meth c Q G b sz n0 s0 y w' f' pc' ls' st')
    (row : ∀ (x z : Int) (r : List mj_V), mj_rg x → mj_rg z → mj_rg (op x z) ∧ (W p l e R s m args below meth c H locs (w.2.2.1 - n0) (w.2.2.2 - s0) Q (F0 m (pc + 1) lsA (.int (Int32.ofInt (op x z)) :: r.map (mj_val b sz))) → W p l e R s m args below meth c H locs (w.2.2.1 - n0) (w.2.2.2 - s0) Q (F0 m pc lsA (.int (Int32.ofInt z) :: .int (Int32.ofInt x) :: r.map (mj_val b sz))))) : mj_Wg p l e R s m args below meth c Q b sz n0 s0 w H locs pc lsA st := by
  unfold mj_b2 at hs
  split at hs
  · next z x r =>
    cases hs
    have o1 := List.forall_mem_cons.mp I.2.2.2.1
    have o2 := List.forall_mem_cons.mp o1.2
    obtain ⟨h1, h2⟩ := row x z r o2.1 o1.1
    exact h2 (kk _ _ _ (mj_I_st I (List.forall_mem_cons.mpr ⟨h1, o2.2⟩)))
  · cases hs
theorem mj_s_b1 {op : Int → Int} (hs : mj_b1 w f pc ls st op = some (w', f', pc', ls', st')) (I : mj_I s G b sz n0 s0 y w f ls st H locs lsA) (kk : mj_K p l e R s m args below meth c Q G b sz n0 s0 y w' f' pc' ls' st')
    (row : ∀ (x : Int) (r : List mj_V), mj_rg x → mj_rg (op x) ∧ (W p l e R s m args below meth c H locs (w.2.2.1 - n0) (w.2.2.2 - s0) Q (F0 m (pc + 1) lsA (.int (Int32.ofInt (op x)) :: r.map (mj_val b sz))) → W p l e R s m args below meth c H locs (w.2.2.1 - n0) (w.2.2.2 - s0) Q (F0 m pc lsA (.int (Int32.ofInt x) :: r.map (mj_val b sz))))) : mj_Wg p l e R s m args below meth c Q b sz n0 s0 w H locs pc lsA st := by
  unfold mj_b1 at hs
  split at hs
  · next x r =>
    cases hs
    have o1 := List.forall_mem_cons.mp I.2.2.2.1
    obtain ⟨h1, h2⟩ := row x r o1.1
    exact h2 (kk _ _ _ (mj_I_st I (List.forall_mem_cons.mpr ⟨h1, o1.2⟩)))
  · cases hs
theorem mj_s_l2 {op : Int → Int → mj_V} (hs : mj_l2 w f pc ls st op = some (w', f', pc', ls', st')) (I : mj_I s G b sz n0 s0 y w f ls st H locs lsA) (kk : mj_K p l e R s m args below meth c Q G b sz n0 s0 y w' f' pc' ls' st')
    (row : ∀ (x z : Int) (r : List mj_V), mj_okv (.inr (.inr (.inl x))) → mj_okv (.inr (.inr (.inl z))) → mj_okv (op x z) ∧ (W p l e R s m args below meth c H locs (w.2.2.1 - n0) (w.2.2.2 - s0) Q (F0 m (pc + 1) lsA (mj_val b sz (op x z) :: r.map (mj_val b sz))) → W p l e R s m args below meth c H locs (w.2.2.1 - n0) (w.2.2.2 - s0) Q (F0 m pc lsA (.long (Int64.ofInt z) :: .long (Int64.ofInt x) :: r.map (mj_val b sz))))) : mj_Wg p l e R s m args below meth c Q b sz n0 s0 w H locs pc lsA st := by
  unfold mj_l2 at hs
  split at hs
  · next z x r =>
    cases hs
    have o1 := List.forall_mem_cons.mp I.2.2.2.1
    have o2 := List.forall_mem_cons.mp o1.2
    obtain ⟨h1, h2⟩ := row x z r o2.1 o1.1
    exact h2 (kk _ _ _ (mj_I_st I (List.forall_mem_cons.mpr ⟨h1, o2.2⟩)))
  · cases hs
/-- instructions that touch neither heap nor calls -/
def mj_plain : Instr → Bool
  | .iconst _ | .bipush _ | .sipush _ | .lconst _ | .ldc _ | .ldc_w _ | .iload _ | .iload_n _ | .lload _ | .lload_n _ | .aload _ | .aload_n _ | .istore _ | .istore_n _ | .lstore _ | .lstore_n _ | .astore _ | .astore_n _ | .iinc _ _ | .iadd | .isub | .imul | .iand | .ior | .ishl | .ishr | .idiv | .irem | .ineg | .i2b | .i2l | .lsub | .lmul | .lcmp | .dup | .dup2 | .pop | .goto _ | .ifCond _ _ | .if_icmp _ _ | .tableswitch _ _ _ _ | .lookupswitch _ _ => true
  | _ => false
set_option maxHeartbeats 4000000 in
theorem mj_step1 {i : Instr} (hpl : mj_plain i = true) (C : mj_C p s m args meth c G y) (I : mj_I s G b sz n0 s0 y w f ls st H locs lsA) (hd : mj_dec y pc = some i) (hs : mj_stp y i w f pc ls st = some (w', f', pc', ls', st')) (kk : mj_K p l e R s m args below meth c Q G b sz n0 s0 y w' f' pc' ls' st') : mj_Wg p l e R s m args below meth c Q b sz n0 s0 w H locs pc lsA st := by
  obtain ⟨hx, hb, hml, hown, hts, hini, hok⟩ := C
  match i, hpl, hd, hs with
  | .iconst n, _, hd, hs =>
    cases hs
    have h := kk _ _ _ (mj_I_st I (List.forall_mem_cons.mpr ⟨mj_rg_to _, I.2.2.2.1⟩))
    simp only [mj_Wg, List.map_cons, mj_val, mj_ofto] at h
    exact lv_iconst hx hb (mj_dec_ok hd rfl (by decide)) rfl h
  | .bipush n, _, hd, hs =>
    cases hs
    have h := kk _ _ _ (mj_I_st I (List.forall_mem_cons.mpr ⟨mj_rg_to _, I.2.2.2.1⟩))
    simp only [mj_Wg, List.map_cons, mj_val, mj_ofto] at h
    exact lv_bipush hx hb (mj_dec_ok hd rfl (by decide)) rfl h
  | .sipush n, _, hd, hs =>
    cases hs
    have h := kk _ _ _ (mj_I_st I (List.forall_mem_cons.mpr ⟨mj_rg_to _, I.2.2.2.1⟩))
    simp only [mj_Wg, List.map_cons, mj_val, mj_ofto] at h
    exact lv_sipush hx hb (mj_dec_ok hd rfl (by decide)) rfl h
  | .lconst n, _, hd, hs =>
    cases hs
    have h := kk _ _ _ (mj_I_st I (List.forall_mem_cons.mpr ⟨(by have := n.isLt; exact ⟨by omega, by omega⟩), I.2.2.2.1⟩))
    exact lv_lconst hx hb (mj_dec_ok hd rfl (by decide)) (Int64.ofInt_eq_ofNat).symm h
  | .ldc idx, _, hd, hs =>
    simp only [mj_stp] at hs
    split at hs
    · next v q hq =>
      cases hs
      have h := kk _ _ _ (mj_I_st I (List.forall_mem_cons.mpr ⟨mj_rg_to _, I.2.2.2.1⟩))
      simp only [mj_Wg, List.map_cons, mj_val, mj_ofto] at h
      exact lv_ldc hx hb hown (hts _ (mj_t2 (mj_kl_ok hq) rfl)) (mj_dec_ok hd rfl (by decide)) h
    · cases hs
  | .ldc_w idx, _, hd, hs =>
    simp only [mj_stp] at hs
    split at hs
    · next v q hq =>
      cases hs
      have h := kk _ _ _ (mj_I_st I (List.forall_mem_cons.mpr ⟨mj_rg_to _, I.2.2.2.1⟩))
      simp only [mj_Wg, List.map_cons, mj_val, mj_ofto] at h
      exact lv_ldcw hx hb hown (hts _ (mj_t2 (mj_kl_ok hq) rfl)) (mj_dec_ok hd rfl (by decide)) h
    · cases hs
  | .iload k, _, hd, hs => exact mj_s_ldi hs I kk (fun x h1 h2 => lv_iload hx hb (mj_dec_ok hd rfl (by decide)) h1 h2)
  | .iload_n k, _, hd, hs => exact mj_s_ldi hs I kk (fun x h1 h2 => lv_iload_n hx hb (mj_dec_ok hd rfl (by decide)) rfl h1 h2)
  | .lload k, _, hd, hs => exact mj_s_ldl hs I kk (fun x h1 h2 => lv_lload hx hb (mj_dec_ok hd rfl (by decide)) h1 h2)
  | .lload_n k, _, hd, hs => exact mj_s_ldl hs I kk (fun x h1 h2 => lv_lload_n hx hb (mj_dec_ok hd rfl (by decide)) rfl h1 h2)
  | .aload k, _, hd, hs => exact mj_s_lda hs I kk (fun x h1 h2 => lv_aload hx hb (mj_dec_ok hd rfl (by decide)) h1 h2)
  | .aload_n k, _, hd, hs => exact mj_s_lda hs I kk (fun x h1 h2 => lv_aload_n hx hb (mj_dec_ok hd rfl (by decide)) rfl h1 h2)
  | .istore k, _, hd, hs =>
    simp only [mj_stp, mj_sti] at hs
    split at hs
    · split at hs
      · next v r hk =>
        cases hs
        exact mj_s_sto hk I kk (fun lv h1 h2 h3 => lv_istore hx hb (mj_dec_ok hd rfl (by decide)) h1 h2 rfl h3)
      · cases hs
    · cases hs
  | .istore_n k, _, hd, hs =>
    simp only [mj_stp, mj_sti] at hs
    split at hs
    · split at hs
      · next v r hk =>
        cases hs
        exact mj_s_sto hk I kk (fun lv h1 h2 h3 => lv_istore_n hx hb (mj_dec_ok hd rfl (by decide)) rfl h1 h2 rfl h3)
      · cases hs
    · cases hs
  | .astore k, _, hd, hs =>
    simp only [mj_stp, mj_sta] at hs
    split at hs
    · split at hs
      · next v r hk =>
        cases hs
        exact mj_s_sto hk I kk (fun lv h1 h2 h3 => lv_astore hx hb (mj_dec_ok hd rfl (by decide)) h1 h2 rfl h3)
      · cases hs
    · cases hs
  | .astore_n k, _, hd, hs =>
    simp only [mj_stp, mj_sta] at hs
    split at hs
    · split at hs
      · next v r hk =>
        cases hs
        exact mj_s_sto hk I kk (fun lv h1 h2 h3 => lv_astore_n hx hb (mj_dec_ok hd rfl (by decide)) rfl h1 h2 rfl h3)
      · cases hs
    · cases hs
  | .lstore k, _, hd, hs =>
    simp only [mj_stp, mj_stl] at hs
    split at hs
    · split at hs
      · next v r hk =>
        cases hs
        obtain ⟨a1, a2, ⟨b1, b2, lv, b3, b4⟩, a4, a5⟩ := I
        have ho := List.forall_mem_cons.mp a4
        exact lv_lstore hx hb (mj_dec_ok hd rfl (by decide)) b3 (by rw [← b1]; exact hk) rfl (fun lsB hB => kk _ _ _ ⟨a1, a2, mj_Ls.setL (lsA := lsA) b1 b2 b4 ho.1 hB, ho.2, a5⟩)
      · cases hs
    · cases hs
  | .lstore_n k, _, hd, hs =>
    simp only [mj_stp, mj_stl] at hs
    split at hs
    · split at hs
      · next v r hk =>
        cases hs
        obtain ⟨a1, a2, ⟨b1, b2, lv, b3, b4⟩, a4, a5⟩ := I
        have ho := List.forall_mem_cons.mp a4
        exact lv_lstore_n hx hb (mj_dec_ok hd rfl (by decide)) rfl b3 (by rw [← b1]; exact hk) rfl (fun lsB hB => kk _ _ _ ⟨a1, a2, mj_Ls.setL (lsA := lsA) b1 b2 b4 ho.1 hB, ho.2, a5⟩)
      · cases hs
    · cases hs
  | .iinc k n, _, hd, hs =>
    simp only [mj_stp] at hs
    split at hs
    · next v hv =>
      cases hs
      obtain ⟨a1, a2, ⟨b1, b2, lv, b3, b4⟩, a4, a5⟩ := I
      obtain ⟨j, hj⟩ := List.getElem?_of_mem (b4 _ _ hv (fun u q => by cases q))
      have hl := (List.getElem?_eq_some_iff.mp hv).1
      refine lv_iinc (v := Int32.ofInt (mj_w (v + n))) hx hb (mj_dec_ok hd rfl (by decide)) b3 hj (by rw [mj_ofw, Int32.ofInt_add]) (by rw [← b1]; exact hl) rfl (fun lsB hB => ?_)
      exact kk _ _ _ ⟨a1, a2, mj_Ls.set (lsA := lsA) (v := .inl (mj_w (v + n))) b1 b2 b4 (mj_w_rg _) hB, a4, a5⟩
    · cases hs
  | .iadd, _, hd, hs => exact mj_s_b2 hs I kk (fun x z r _ _ => ⟨mj_w_rg _, fun h => lv_iadd hx hb (mj_dec_ok hd rfl (by decide)) (by rw [← Int32.ofInt_add, ← mj_ofw]; exact h)⟩)
  | .isub, _, hd, hs => exact mj_s_b2 hs I kk (fun x z r _ _ => ⟨mj_w_rg _, fun h => lv_isub hx hb (mj_dec_ok hd rfl (by decide)) (by rw [← Int32.ofInt_sub, ← mj_ofw]; exact h)⟩)
  | .imul, _, hd, hs => exact mj_s_b2 hs I kk (fun x z r _ _ => ⟨mj_w_rg _, fun h => lv_imul hx hb (mj_dec_ok hd rfl (by decide)) (by rw [← Int32.ofInt_mul, ← mj_ofw]; exact h)⟩)
  | .iand, _, hd, hs => exact mj_s_b2 hs I kk (fun x z r _ _ => ⟨mj_rg_to _, fun h => lv_iand hx hb (mj_dec_ok hd rfl (by decide)) (by rw [mj_and, mj_ofto] at h; exact h)⟩)
  | .ior, _, hd, hs => exact mj_s_b2 hs I kk (fun x z r _ _ => ⟨mj_rg_to _, fun h => lv_ior hx hb (mj_dec_ok hd rfl (by decide)) (by rw [mj_or, mj_ofto] at h; exact h)⟩)
  | .ishl, _, hd, hs => exact mj_s_b2 hs I kk (fun x z r _ _ => ⟨mj_rg_to _, fun h => lv_ishl hx hb (mj_dec_ok hd rfl (by decide)) (by rw [mj_shl, mj_ofto] at h; exact h)⟩)
  | .ishr, _, hd, hs => exact mj_s_b2 hs I kk (fun x z r _ _ => ⟨mj_rg_to _, fun h => lv_ishr hx hb (mj_dec_ok hd rfl (by decide)) (by rw [mj_shr, mj_ofto] at h; exact h)⟩)
  | .idiv, _, hd, hs =>
    simp only [mj_stp] at hs
    split at hs
    · next z x r =>
      split at hs
      · cases hs
      · next hz =>
        cases hs
        have o1 := List.forall_mem_cons.mp I.2.2.2.1
        have o2 := List.forall_mem_cons.mp o1.2
        have h := kk _ _ _ (mj_I_st I (List.forall_mem_cons.mpr ⟨mj_rg_to _, o2.2⟩))
        simp only [mj_Wg, List.map_cons, mj_val, mj_div, mj_ofto] at h
        exact lv_idiv hx hb (mj_dec_ok hd rfl (by decide)) (fun q => hz ((mj_eq o1.1 mj_rg0).mp q)) h
    · cases hs
  | .irem, _, hd, hs =>
    simp only [mj_stp] at hs
    split at hs
    · next z x r =>
      split at hs
      · cases hs
      · next hz =>
        cases hs
        have o1 := List.forall_mem_cons.mp I.2.2.2.1
        have o2 := List.forall_mem_cons.mp o1.2
        have h := kk _ _ _ (mj_I_st I (List.forall_mem_cons.mpr ⟨mj_rg_to _, o2.2⟩))
        simp only [mj_Wg, List.map_cons, mj_val, mj_rem, mj_ofto] at h
        exact lv_irem hx hb (mj_dec_ok hd rfl (by decide)) (fun q => hz ((mj_eq o1.1 mj_rg0).mp q)) h
    · cases hs
  | .ineg, _, hd, hs => exact mj_s_b1 hs I kk (fun x r _ => ⟨mj_w_rg _, fun h => lv_ineg hx hb (mj_dec_ok hd rfl (by decide)) (by rw [← Int32.ofInt_neg, ← mj_ofw]; exact h)⟩)
  | .i2b, _, hd, hs => exact mj_s_b1 hs I kk (fun x r _ => ⟨mj_w8_rg _, fun h => lv_i2b hx hb (mj_dec_ok hd rfl (by decide)) (mj_w8_of x) h⟩)
  | .i2l, _, hd, hs =>
    simp only [mj_stp] at hs
    split at hs
    · next x r =>
      cases hs
      have o1 := List.forall_mem_cons.mp I.2.2.2.1
      have h := kk _ _ _ (mj_I_st I (List.forall_mem_cons.mpr ⟨(by have := o1.1; unfold mj_okv mj_rg at this; exact ⟨by omega, by omega⟩), o1.2⟩))
      exact lv_i2l hx hb (mj_dec_ok hd rfl (by decide)) (mj_i2l o1.1) h
    · cases hs
  | .lsub, _, hd, hs => exact mj_s_l2 hs I kk (fun x z r _ _ => ⟨mj_w64_rg _, fun h => lv_lsub hx hb (mj_dec_ok hd rfl (by decide)) (by rw [← Int64.ofInt_sub, ← mj_ofw64]; exact h)⟩)
  | .lmul, _, hd, hs => exact mj_s_l2 hs I kk (fun x z r _ _ => ⟨mj_w64_rg _, fun h => lv_lmul hx hb (mj_dec_ok hd rfl (by decide)) (by rw [← Int64.ofInt_mul, ← mj_ofw64]; exact h)⟩)
  | .lcmp, _, hd, hs => exact mj_s_l2 hs I kk (fun x z r h1 h2 => ⟨mj_cmp_rg _ _, fun h => W.lcmp hx hb (mj_dec_ok hd rfl (by decide)) (by rw [mj_cmp_of h1 h2]; exact h)⟩)
  | .dup, _, hd, hs =>
    simp only [mj_stp] at hs
    split at hs
    · cases hs
      have o1 := List.forall_mem_cons.mp I.2.2.2.1
      exact lv_dup hx hb (mj_dec_ok hd rfl (by decide)) rfl (kk _ _ _ (mj_I_st I (List.forall_mem_cons.mpr ⟨o1.1, I.2.2.2.1⟩)))
    · cases hs
      have o1 := List.forall_mem_cons.mp I.2.2.2.1
      exact lv_dup hx hb (mj_dec_ok hd rfl (by decide)) rfl (kk _ _ _ (mj_I_st I (List.forall_mem_cons.mpr ⟨o1.1, I.2.2.2.1⟩)))
    · cases hs
  | .dup2, _, hd, hs =>
    simp only [mj_stp] at hs
    split at hs
    · cases hs
      have o1 := List.forall_mem_cons.mp I.2.2.2.1
      have o2 := List.forall_mem_cons.mp o1.2
      exact lv_dup2_11 hx hb (mj_dec_ok hd rfl (by decide)) rfl rfl (kk _ _ _ (mj_I_st I (List.forall_mem_cons.mpr ⟨o1.1, List.forall_mem_cons.mpr ⟨o2.1, I.2.2.2.1⟩⟩)))
    · cases hs
  | .pop, _, hd, hs =>
    simp only [mj_stp] at hs
    split at hs
    · cases hs
      exact lv_pop hx hb (mj_dec_ok hd rfl (by decide)) rfl (kk _ _ _ (mj_I_st I (List.forall_mem_cons.mp I.2.2.2.1).2))
    · cases hs
      exact lv_pop hx hb (mj_dec_ok hd rfl (by decide)) rfl (kk _ _ _ (mj_I_st I (List.forall_mem_cons.mp I.2.2.2.1).2))
    · cases hs
  | .goto off, _, hd, hs =>
    obtain ⟨h1, rfl, rfl, rfl, rfl⟩ := mj_jmp_ok hs
    exact lv_goto hx hb (mj_dec_ok hd rfl (by decide)) h1 (kk _ _ _ I)
  | .ifCond cc off, _, hd, hs =>
    simp only [mj_stp] at hs
    split at hs
    · next x r =>
      have o1 := List.forall_mem_cons.mp I.2.2.2.1
      have I' := mj_I_st I o1.2
      cases cc <;> dsimp only at hs
      · exact mj_br (mj_eq o1.1 mj_rg0) I' hs kk (fun t h1 h2 h3 => lv_if_eq hx hb (mj_dec_ok hd rfl (by decide)) h1 h2 h3)
      · exact mj_br (not_congr (mj_eq o1.1 mj_rg0)) I' hs kk (fun t h1 h2 h3 => lv_if_ne hx hb (mj_dec_ok hd rfl (by decide)) h1 h2 (fun q => h3 (fun n => n q)))
      · exact mj_br (mj_lt o1.1 mj_rg0) I' hs kk (fun t h1 h2 h3 => lv_if_lt hx hb (mj_dec_ok hd rfl (by decide)) h1 h2 h3)
      · exact mj_br (mj_le mj_rg0 o1.1) I' hs kk (fun t h1 h2 h3 => lv_if_ge hx hb (mj_dec_ok hd rfl (by decide)) h1 h2 h3)
      · exact mj_br (mj_lt mj_rg0 o1.1) I' hs kk (fun t h1 h2 h3 => lv_if_gt hx hb (mj_dec_ok hd rfl (by decide)) h1 h2 h3)
      · exact mj_br (mj_le o1.1 mj_rg0) I' hs kk (fun t h1 h2 h3 => lv_if_le hx hb (mj_dec_ok hd rfl (by decide)) h1 h2 h3)
    · cases hs
  | .if_icmp cc off, _, hd, hs =>
    simp only [mj_stp] at hs
    split at hs
    · next z x r =>
      have o1 := List.forall_mem_cons.mp I.2.2.2.1
      have o2 := List.forall_mem_cons.mp o1.2
      have I' := mj_I_st I o2.2
      cases cc <;> dsimp only at hs
      · exact mj_br (mj_eq o2.1 o1.1) I' hs kk (fun t h1 h2 h3 => lv_icmp_eq hx hb (mj_dec_ok hd rfl (by decide)) h1 h2 h3)
      · exact mj_br (not_congr (mj_eq o2.1 o1.1)) I' hs kk (fun t h1 h2 h3 => lv_icmp_ne hx hb (mj_dec_ok hd rfl (by decide)) h1 h2 (fun q => h3 (fun n => n q)))
      · exact mj_br (mj_lt o2.1 o1.1) I' hs kk (fun t h1 h2 h3 => lv_icmp_lt hx hb (mj_dec_ok hd rfl (by decide)) h1 h2 h3)
      · exact mj_br (mj_le o1.1 o2.1) I' hs kk (fun t h1 h2 h3 => lv_icmp_ge hx hb (mj_dec_ok hd rfl (by decide)) h1 h2 h3)
      · exact mj_br (mj_lt o1.1 o2.1) I' hs kk (fun t h1 h2 h3 => lv_icmp_gt hx hb (mj_dec_ok hd rfl (by decide)) h1 h2 h3)
      · exact mj_br (mj_le o2.1 o1.1) I' hs kk (fun t h1 h2 h3 => lv_icmp_le hx hb (mj_dec_ok hd rfl (by decide)) h1 h2 h3)
    · cases hs
  | .tableswitch dflt lo hi offs, _, hd, hs =>
    obtain ⟨n, hd, -⟩ := mj_dec_ex hd
    simp only [mj_stp] at hs
    split at hs
    · next x r =>
      have o1 := List.forall_mem_cons.mp I.2.2.2.1
      have ht := mj_to o1.1
      split at hs
      · next hc =>
        obtain ⟨h1, rfl, rfl, rfl, rfl⟩ := mj_jmp_ok hs
        exact lv_tableOut hx hb hd (by rw [ht]; exact hc) h1 (kk _ _ _ (mj_I_st I o1.2))
      · next hc =>
        split at hs
        · next off hoff =>
          obtain ⟨h1, rfl, rfl, rfl, rfl⟩ := mj_jmp_ok hs
          exact lv_tableIn hx hb hd (by rw [ht]; exact fun q => hc (Or.inl q)) (by rw [ht]; exact fun q => hc (Or.inr q)) (by rw [ht]; exact hoff) h1 (kk _ _ _ (mj_I_st I o1.2))
        · cases hs
    · cases hs
  | .lookupswitch dflt ps, _, hd, hs =>
    obtain ⟨n, hd, -⟩ := mj_dec_ex hd
    simp only [mj_stp] at hs
    split at hs
    · next x r =>
      have o1 := List.forall_mem_cons.mp I.2.2.2.1
      have ht := mj_to o1.1
      split at hs
      · next hc =>
        obtain ⟨h1, rfl, rfl, rfl, rfl⟩ := mj_jmp_ok hs
        exact lv_lookup hx hb hd hc (by rw [ht]) h1 (kk _ _ _ (mj_I_st I o1.2))
      · cases hs
    · cases hs
end MJ
