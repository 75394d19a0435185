/-! What stays along our own machine: values fit, the script stays, addresses grow. -/
def mj_J (w : mj_W) (f : mj_F) (w' : mj_W) (f' : mj_F) : Prop := mj_wf w' ∧ (∀ a j, mj_rg (f' a j)) ∧ w'.1 1 = w.1 1 ∧ f' 1 = f 1 ∧ w.2.2.1 ≤ w'.2.2.1 ∧ w.2.2.2 ≤ w'.2.2.2 ∧ ∀ a, mj_lv w a → w'.1 a = w.1 a
section MJ
variable {y : Nat} {w w' w2 : mj_W} {f f' f2 : mj_F} {ls ls' st st' : List mj_V} {pc pc' : Nat}
theorem mj_J_rf (hwf : mj_wf w) (hr : ∀ a j, mj_rg (f a j)) : mj_J w f w f := ⟨hwf, hr, rfl, rfl, Nat.le_refl _, Nat.le_refl _, fun _ _ => rfl⟩
theorem mj_J_tr (h1 : mj_J w f w' f') (h2 : mj_J w' f' w2 f2) : mj_J w f w2 f2 := ⟨h2.1, h2.2.1, h2.2.2.1.trans h1.2.2.1, h2.2.2.2.1.trans h1.2.2.2.1, Nat.le_trans h1.2.2.2.2.1 h2.2.2.2.2.1, Nat.le_trans h1.2.2.2.2.2.1 h2.2.2.2.2.2.1, fun a ha => (h2.2.2.2.2.2.2 a (by unfold mj_lv; rw [h1.2.2.2.2.2.2 a ha]; exact ha)).trans (h1.2.2.2.2.2.2 a ha)⟩
theorem mj_J_u {a i : Nat} {v : Int} (hwf : mj_wf w) (hr : ∀ a j, mj_rg (f a j)) (ha : mj_lv w a) (hv : mj_rg v) : mj_J w f w (mj_u f a i v) :=
  ⟨hwf, mj_u_rg hr hv, rfl, mj_u_ne (by have := (hwf.2.1 a ha).1; omega), Nat.le_refl _, Nat.le_refl _, fun _ _ => rfl⟩
theorem mj_J_ug {a i v : Nat} (hwf : mj_wf w) (hr : ∀ a j, mj_rg (f a j)) : mj_J w f (mj_ug w a i v) f := ⟨hwf, hr, rfl, rfl, Nat.le_refl _, Nat.le_refl _, fun _ _ => rfl⟩
theorem mj_wf_new {t : Nat × Nat} {n : Nat} (hwf : mj_wf w) (ht : t.1 ≠ 104) : mj_wf (mj_new w t n) := by
  refine ⟨by show 2 ≤ w.2.2.1 + 1; have := hwf.1; omega, fun a ha => ?_, fun a ha => ?_⟩
  · show 2 ≤ a ∧ a < w.2.2.1 + 1
    have h22 := hwf.1
    by_cases hx : a = w.2.2.1
    · omega
    · have h1 : mj_lv w a := by simpa [mj_lv, mj_new, hx] using ha
      have := hwf.2.1 a h1
      omega
  · by_cases hx : a = w.2.2.1
    · subst hx
      simp [mj_new] at ha
      exact absurd ha ht
    · exact hwf.2.2 a (by simpa [mj_new, hx] using ha)
theorem mj_J_new {t : Nat × Nat} {n : Nat} (hwf : mj_wf w) (hr : ∀ a j, mj_rg (f a j)) (ht : t.1 ≠ 104) : mj_J w f (mj_new w t n) (mj_z f w.2.2.1) := by
  have h22 := hwf.1
  have hne : (1 : Nat) ≠ w.2.2.1 := by omega
  refine ⟨mj_wf_new hwf ht, fun a j => ?_, by simp [mj_new, hne], by funext j; simp [mj_z, hne], by show w.2.2.1 ≤ w.2.2.1 + 1; omega, by show w.2.2.2 ≤ w.2.2.2 + n; omega, fun a ha => ?_⟩
  case refine_2 =>
    have h3 : a ≠ w.2.2.1 := by have := (hwf.2.1 a ha).2; omega
    simp [mj_new, h3]
  unfold mj_z
  split
  · exact mj_rg0
  · exact hr a j
theorem mj_J_cpy {a sp d dp n : Nat} (hwf : mj_wf w) (hr : ∀ a j, mj_rg (f a j)) (hd : mj_lv w d) : mj_J w f w (mj_cpy f a sp d dp n) :=
  ⟨hwf, fun x j => by unfold mj_cpy; split <;> exact hr _ _, rfl, by funext j; have := (hwf.2.1 d hd).1; have hne : (1 : Nat) ≠ d := by omega
                                                                     simp [mj_cpy, hne], Nat.le_refl _, Nat.le_refl _, fun _ _ => rfl⟩
theorem mj_J_if {c0 : Prop} [Decidable c0] {off : Int} (h : mj_if c0 w f pc off ls st = some (w', f', pc', ls', st')) : w' = w ∧ f' = f ∧ ls' = ls ∧ st' = st := by
  unfold mj_if at h
  split at h
  · exact (mj_jmp_ok h).2
  · split at h
    · cases h
      exact ⟨rfl, rfl, rfl, rfl⟩
    · cases h
set_option maxHeartbeats 4000000 in
theorem mj_stp_inv {i : Instr} (hwf : mj_wf w) (hr : ∀ a j, mj_rg (f a j)) (hl : ∀ v ∈ ls, mj_okv v) (ho : ∀ v ∈ st, mj_okv v) (hs : mj_stp y i w f pc ls st = some (w', f', pc', ls', st')) : mj_J w f w' f' ∧ (∀ v ∈ ls', mj_okv v) ∧ ∀ v ∈ st', mj_okv v := by
  have J0 := mj_J_rf hwf hr
  have c1 : ∀ {v : mj_V} {r : List mj_V}, mj_okv v → (∀ u ∈ r, mj_okv u) → ∀ u ∈ v :: r, mj_okv u := fun h1 h2 => List.forall_mem_cons.mpr ⟨h1, h2⟩
  have d1 : ∀ {v : mj_V} {r : List mj_V}, (∀ u ∈ v :: r, mj_okv u) → mj_okv v ∧ ∀ u ∈ r, mj_okv u := fun h => List.forall_mem_cons.mp h
  have hidi : ∀ {d k : Nat}, mj_ldi w f d ls st k = some (w', f', pc', ls', st') → mj_J w f w' f' ∧ (∀ v ∈ ls', mj_okv v) ∧ ∀ v ∈ st', mj_okv v := by
    intro d k hs
    unfold mj_ldi at hs
    split at hs
    · next v hv => cases hs; exact ⟨J0, hl, c1 (hl _ (List.mem_of_getElem? hv)) ho⟩
    · cases hs
  have hidl : ∀ {d k : Nat}, mj_ldl w f d ls st k = some (w', f', pc', ls', st') → mj_J w f w' f' ∧ (∀ v ∈ ls', mj_okv v) ∧ ∀ v ∈ st', mj_okv v := by
    intro d k hs
    unfold mj_ldl at hs
    split at hs
    · next v hv => cases hs; exact ⟨J0, hl, c1 (hl _ (List.mem_of_getElem? hv)) ho⟩
    · cases hs
  have hida : ∀ {d k : Nat}, mj_lda w f d ls st k = some (w', f', pc', ls', st') → mj_J w f w' f' ∧ (∀ v ∈ ls', mj_okv v) ∧ ∀ v ∈ st', mj_okv v := by
    intro d k hs
    unfold mj_lda at hs
    split at hs
    · next v hv => cases hs; exact ⟨J0, hl, c1 trivial ho⟩
    · cases hs
  have hsti : ∀ {d k : Nat}, mj_sti w f d ls st k = some (w', f', pc', ls', st') → mj_J w f w' f' ∧ (∀ v ∈ ls', mj_okv v) ∧ ∀ v ∈ st', mj_okv v := by
    intro d k hs
    unfold mj_sti at hs
    split at hs
    · split at hs
      · cases hs
        exact ⟨J0, fun u hu => mj_set_mem hu (d1 ho).1 hl, (d1 ho).2⟩
      · cases hs
    · cases hs
  have hsta : ∀ {d k : Nat}, mj_sta w f d ls st k = some (w', f', pc', ls', st') → mj_J w f w' f' ∧ (∀ v ∈ ls', mj_okv v) ∧ ∀ v ∈ st', mj_okv v := by
    intro d k hs
    unfold mj_sta at hs
    split at hs
    · split at hs
      · cases hs
        exact ⟨J0, fun u hu => mj_set_mem hu (d1 ho).1 hl, (d1 ho).2⟩
      · cases hs
    · cases hs
  have hstl : ∀ {d k : Nat}, mj_stl w f d ls st k = some (w', f', pc', ls', st') → mj_J w f w' f' ∧ (∀ v ∈ ls', mj_okv v) ∧ ∀ v ∈ st', mj_okv v := by
    intro d k hs
    unfold mj_stl at hs
    split at hs
    · split at hs
      · cases hs
        refine ⟨J0, fun u hu => ?_, (d1 ho).2⟩
        rcases List.mem_or_eq_of_mem_set hu with h5 | rfl
        · exact mj_set_mem h5 (d1 ho).1 hl
        · exact trivial
      · cases hs
    · cases hs
  have hb2 : ∀ {op : Int → Int → Int}, (∀ x z, mj_rg (op x z)) → mj_b2 w f pc ls st op = some (w', f', pc', ls', st') → mj_J w f w' f' ∧ (∀ v ∈ ls', mj_okv v) ∧ ∀ v ∈ st', mj_okv v := by
    intro op hop hs
    unfold mj_b2 at hs
    split at hs
    · cases hs
      exact ⟨J0, hl, c1 (hop _ _) (d1 (d1 ho).2).2⟩
    · cases hs
  have hb1 : ∀ {op : Int → Int}, (∀ x, mj_rg (op x)) → mj_b1 w f pc ls st op = some (w', f', pc', ls', st') → mj_J w f w' f' ∧ (∀ v ∈ ls', mj_okv v) ∧ ∀ v ∈ st', mj_okv v := by
    intro op hop hs
    unfold mj_b1 at hs
    split at hs
    · cases hs
      exact ⟨J0, hl, c1 (hop _) (d1 ho).2⟩
    · cases hs
  have hl2 : ∀ {op : Int → Int → mj_V}, (∀ x z, mj_okv (op x z)) → mj_l2 w f pc ls st op = some (w', f', pc', ls', st') → mj_J w f w' f' ∧ (∀ v ∈ ls', mj_okv v) ∧ ∀ v ∈ st', mj_okv v := by
    intro op hop hs
    unfold mj_l2 at hs
    split at hs
    · cases hs
      exact ⟨J0, hl, c1 (hop _ _) (d1 (d1 ho).2).2⟩
    · cases hs
  have hjm : ∀ {off : Int} {r : List mj_V}, (∀ u ∈ r, mj_okv u) → mj_jmp w f pc off ls r = some (w', f', pc', ls', st') → mj_J w f w' f' ∧ (∀ v ∈ ls', mj_okv v) ∧ ∀ v ∈ st', mj_okv v := by
    intro off r hro hs
    obtain ⟨-, rfl, rfl, rfl, rfl⟩ := mj_jmp_ok hs
    exact ⟨J0, hl, hro⟩
  have hif : ∀ {c0 : Prop} [Decidable c0] {off : Int} {r : List mj_V}, (∀ u ∈ r, mj_okv u) → mj_if c0 w f pc off ls r = some (w', f', pc', ls', st') → mj_J w f w' f' ∧ (∀ v ∈ ls', mj_okv v) ∧ ∀ v ∈ st', mj_okv v := by
    intro c0 _ off r hro hs
    obtain ⟨rfl, rfl, rfl, rfl⟩ := mj_J_if hs
    exact ⟨J0, hl, hro⟩
  have hna : ∀ {d k : Nat}, k ≠ 104 → mj_newa w f d ls st k = some (w', f', pc', ls', st') → mj_J w f w' f' ∧ (∀ v ∈ ls', mj_okv v) ∧ ∀ v ∈ st', mj_okv v := by
    intro d k hk hs
    unfold mj_newa at hs
    split at hs
    · split at hs
      · cases hs
        exact ⟨mj_J_new hwf hr hk, hl, c1 trivial (d1 ho).2⟩
      · cases hs
    · cases hs
  cases i with
  | iconst n => cases hs; exact ⟨J0, hl, c1 (mj_rg_to _) ho⟩
  | bipush n => cases hs; exact ⟨J0, hl, c1 (mj_rg_to _) ho⟩
  | sipush n => cases hs; exact ⟨J0, hl, c1 (mj_rg_to _) ho⟩
  | lconst n => cases hs; exact ⟨J0, hl, c1 (by have := n.isLt; exact ⟨by omega, by omega⟩) ho⟩
  | ldc idx =>
    simp only [mj_stp] at hs
    split at hs
    · cases hs; exact ⟨J0, hl, c1 (mj_rg_to _) ho⟩
    · cases hs
  | ldc_w idx =>
    simp only [mj_stp] at hs
    split at hs
    · cases hs; exact ⟨J0, hl, c1 (mj_rg_to _) ho⟩
    · cases hs
  | iload k => exact hidi hs
  | iload_n k => exact hidi hs
  | lload k => exact hidl hs
  | lload_n k => exact hidl hs
  | aload k => exact hida hs
  | aload_n k => exact hida hs
  | istore k => exact hsti hs
  | istore_n k => exact hsti hs
  | astore k => exact hsta hs
  | astore_n k => exact hsta hs
  | lstore k => exact hstl hs
  | lstore_n k => exact hstl hs
  | iinc k n =>
    simp only [mj_stp] at hs
    split at hs
    · cases hs; exact ⟨J0, fun u hu => mj_set_mem hu (mj_w_rg _) hl, ho⟩
    · cases hs
  | iadd => exact hb2 (fun _ _ => mj_w_rg _) hs
  | isub => exact hb2 (fun _ _ => mj_w_rg _) hs
  | imul => exact hb2 (fun _ _ => mj_w_rg _) hs
  | iand => exact hb2 (fun _ _ => mj_rg_to _) hs
  | ior => exact hb2 (fun _ _ => mj_rg_to _) hs
  | ishl => exact hb2 (fun _ _ => mj_rg_to _) hs
  | ishr => exact hb2 (fun _ _ => mj_rg_to _) hs
  | idiv =>
    simp only [mj_stp] at hs
    split at hs
    · split at hs
      · cases hs
      · cases hs; exact ⟨J0, hl, c1 (mj_rg_to _) (d1 (d1 ho).2).2⟩
    · cases hs
  | irem =>
    simp only [mj_stp] at hs
    split at hs
    · split at hs
      · cases hs
      · cases hs; exact ⟨J0, hl, c1 (mj_rg_to _) (d1 (d1 ho).2).2⟩
    · cases hs
  | ineg => exact hb1 (fun _ => mj_w_rg _) hs
  | i2b => exact hb1 (fun _ => mj_w8_rg _) hs
  | i2l =>
    simp only [mj_stp] at hs
    split at hs
    · cases hs
      exact ⟨J0, hl, c1 (by have := (d1 ho).1; unfold mj_okv mj_rg at this; exact ⟨by omega, by omega⟩) (d1 ho).2⟩
    · cases hs
  | lsub =>
    refine hl2 ?_ hs
    intro x z
    exact mj_w64_rg _
  | lmul =>
    refine hl2 ?_ hs
    intro x z
    exact mj_w64_rg _
  | lcmp =>
    refine hl2 ?_ hs
    intro x z
    exact mj_cmp_rg _ _
  | dup =>
    simp only [mj_stp] at hs
    split at hs
    · cases hs; exact ⟨J0, hl, c1 (d1 ho).1 ho⟩
    · cases hs; exact ⟨J0, hl, c1 (d1 ho).1 ho⟩
    · cases hs
  | dup2 =>
    simp only [mj_stp] at hs
    split at hs
    · cases hs; exact ⟨J0, hl, c1 (d1 ho).1 (c1 (d1 (d1 ho).2).1 ho)⟩
    · cases hs
  | pop =>
    simp only [mj_stp] at hs
    split at hs
    · cases hs; exact ⟨J0, hl, (d1 ho).2⟩
    · cases hs; exact ⟨J0, hl, (d1 ho).2⟩
    · cases hs
  | goto off => exact hjm ho hs
  | ifCond cc off =>
    simp only [mj_stp] at hs
    split at hs
    · cases cc <;> exact hif (d1 ho).2 hs
    · cases hs
  | if_icmp cc off =>
    simp only [mj_stp] at hs
    split at hs
    · cases cc <;> exact hif (d1 (d1 ho).2).2 hs
    · cases hs
  | tableswitch dflt lo hi offs =>
    simp only [mj_stp] at hs
    split at hs
    · split at hs
      · exact hjm (d1 ho).2 hs
      · split at hs
        · exact hjm (d1 ho).2 hs
        · cases hs
    · cases hs
  | lookupswitch dflt ps =>
    simp only [mj_stp] at hs
    split at hs
    · split at hs
      · exact hjm (d1 ho).2 hs
      · cases hs
    · cases hs
  | getfield idx =>
    simp only [mj_stp, mj_getf] at hs
    split at hs
    · split at hs
      · split at hs
        · split at hs
          · cases hs
          · cases hs; exact ⟨J0, hl, c1 trivial (d1 ho).2⟩
        · cases hs; exact ⟨J0, hl, c1 (hr _ _) (d1 ho).2⟩
      · cases hs
    · cases hs
  | putfield idx =>
    simp only [mj_stp, mj_putf] at hs
    split at hs
    · next v a r ci k q hq =>
      split at hs
      · split at hs
        · next hw =>
          cases hs
          obtain ⟨CC, T, N, hc, hk, hlink⟩ := mj_fl_ok hq
          obtain ⟨hN, hci⟩ := mj_cl_nf hc
          exact ⟨mj_J_u hwf hr (mj_lv_of hw.1 hci) (d1 ho).1, hl, (d1 (d1 ho).2).2⟩
        · cases hs
      · cases hs
    · split at hs
      · split at hs
        · cases hs; exact ⟨mj_J_ug hwf hr, hl, (d1 (d1 ho).2).2⟩
        · cases hs
      · cases hs
    · cases hs
  | iaload =>
    simp only [mj_stp, mj_iald] at hs
    split at hs
    · split at hs
      · cases hs; exact ⟨J0, hl, c1 (hr _ _) (d1 (d1 ho).2).2⟩
      · cases hs
    · cases hs
  | baload =>
    simp only [mj_stp, mj_bald] at hs
    split at hs
    · split at hs
      · cases hs; exact ⟨J0, hl, c1 (hr _ _) (d1 (d1 ho).2).2⟩
      · cases hs
    · cases hs
  | laload =>
    simp only [mj_stp, mj_lald] at hs
    split at hs
    · next j a r =>
      split at hs
      · cases hs; exact ⟨J0, hl, c1 (by have := hr a j.toNat; unfold mj_rg at this; exact ⟨by omega, by omega⟩) (d1 (d1 ho).2).2⟩
      · cases hs
    · cases hs
  | aaload =>
    simp only [mj_stp, mj_aald] at hs
    split at hs
    · split at hs
      · cases hs; exact ⟨J0, hl, c1 trivial (d1 (d1 ho).2).2⟩
      · cases hs
    · cases hs
  | iastore =>
    simp only [mj_stp, mj_iast] at hs
    split at hs
    · split at hs
      · next hw => cases hs; exact ⟨mj_J_u hwf hr (by unfold mj_lv; omega) (d1 ho).1, hl, (d1 (d1 (d1 ho).2).2).2⟩
      · cases hs
    · cases hs
  | bastore =>
    simp only [mj_stp, mj_bast] at hs
    split at hs
    · split at hs
      · next hw => cases hs; exact ⟨mj_J_u hwf hr (by unfold mj_lv; omega) (mj_w8_rg _), hl, (d1 (d1 (d1 ho).2).2).2⟩
      · cases hs
    · cases hs
  | aastore =>
    simp only [mj_stp, mj_aast] at hs
    split at hs
    · split at hs
      · cases hs; exact ⟨mj_J_ug hwf hr, hl, (d1 (d1 (d1 ho).2).2).2⟩
      · cases hs
    · cases hs
  | arraylength =>
    simp only [mj_stp, mj_alen] at hs
    split at hs
    · split at hs
      · next hw => cases hs; exact ⟨J0, hl, c1 ⟨by omega, by omega⟩ (d1 ho).2⟩
      · cases hs
    · cases hs
  | newarray ty =>
    cases ty with
    | int => exact hna (by decide) hs
    | byte => exact hna (by decide) hs
    | long => exact hna (by decide) hs
    | _ => cases hs
  | anewarray idx =>
    simp only [mj_stp, mj_anew] at hs
    split at hs
    · exact hna (by decide) hs
    · cases hs
  | new idx =>
    simp only [mj_stp, mj_newo] at hs
    split at hs
    · split at hs
      · next hci => cases hs; exact ⟨mj_J_new hwf hr (by show _ ≠ 104; omega), hl, c1 trivial ho⟩
      · cases hs
    · cases hs
  | invokespecial idx =>
    simp only [mj_stp, mj_spec] at hs
    split at hs
    · split at hs
      · cases hs; exact ⟨J0, hl, (d1 ho).2⟩
      · cases hs
    · cases hs
  | invokestatic idx =>
    simp only [mj_stp, mj_copy] at hs
    split at hs
    · split at hs
      · next hw => cases hs; exact ⟨mj_J_cpy hwf hr (by unfold mj_lv; omega), hl, (d1 (d1 (d1 (d1 (d1 ho).2).2).2).2).2⟩
      · cases hs
    · split at hs
      · cases hs; exact ⟨J0, hl, c1 (by show mj_rg _; split; exact (d1 ho).1; exact (d1 (d1 ho).2).1) (d1 (d1 ho).2).2⟩
      · cases hs
    · split at hs
      · cases hs; exact ⟨J0, hl, c1 (by show mj_rg _; split; exact (d1 ho).1; exact (d1 (d1 ho).2).1) (d1 (d1 ho).2).2⟩
      · cases hs
    · split at hs
      · cases hs; exact ⟨J0, hl, c1 (by show mj_rg _; split; exact (d1 ho).1; exact mj_w_rg _) (d1 ho).2⟩
      · cases hs
    · cases hs
  | _ => cases hs
theorem mj_callee_mem {i : Instr} {cy k : Nat} {as rest : List mj_V} (h : mj_callee y i w st = some (cy, as, rest, k)) : (∀ v ∈ as, v ∈ st) ∧ (∀ v ∈ rest, v ∈ st) ∧ (k ≠ 0 → w.1 k = (103, 1)) := by
  have hA : ∀ (cy' : Nat) (virt : Bool), mj_dn y cy' (mj_args w st cy' virt) = some (cy, as, rest, k) → (∀ v ∈ as, v ∈ st) ∧ (∀ v ∈ rest, v ∈ st) ∧ (k ≠ 0 → w.1 k = (103, 1)) := by
    intro cy' virt h
    have ht : ∀ v ∈ (st.take (mj_ar cy')).reverse, v ∈ st := fun v hv => List.mem_of_mem_take (List.mem_reverse.mp hv)
    have hdr : ∀ v ∈ st.drop (mj_ar cy'), v ∈ st := fun v hv => List.mem_of_mem_drop hv
    unfold mj_dn at h
    split at h
    · unfold mj_args at h
      split at h
      · split at h
        · next a as' heq =>
          split at h
          · cases h
            rw [heq] at ht
            exact ⟨ht, hdr, fun q => absurd rfl q⟩
          · cases h
        · cases h
        · cases h
          exact ⟨ht, hdr, fun q => absurd rfl q⟩
      · cases h
    · cases h
  unfold mj_callee at h
  split at h
  · split at h
    · exact hA _ _ h
    · exact hA _ _ h
    · cases h
  · split at h
    · exact hA _ _ h
    · exact hA _ _ h
    · split at h
      · next hw =>
        cases h
        refine ⟨fun v hv => ?_, fun v hv => ?_, fun _ => hw.1⟩
        · simp only [List.mem_cons, List.not_mem_nil, or_false] at hv ⊢
          rcases hv with h | h | h
          · exact Or.inr (Or.inr (Or.inr (Or.inl h)))
          · exact Or.inr (Or.inr (Or.inl h))
          · exact Or.inr (Or.inl h)
        · exact List.mem_cons_of_mem _ (List.mem_cons_of_mem _ (List.mem_cons_of_mem _ (List.mem_cons_of_mem _ hv)))
      · cases h
    · cases h
  · split at h
    · exact hA _ _ h
    · exact hA _ _ h
    · cases h
  · cases h
theorem mj_nx_end {w2 : mj_W} {v : Option mj_V} (h : mj_nx y w f pc ls st = some (.inl (w2, v))) : ∃ i, mj_dec y pc = some i ∧ mj_end y i w st = some (w2, v) ∧ (mj_imp y = true ∨ mj_keepw y i = true) := by
  unfold mj_nx at h
  split at h
  · next i hi =>
    split at h
    · next hk =>
      split at h
      · next r hr =>
        cases h
        exact ⟨i, hi, hr, hk⟩
      · split at h
        · split at h <;> cases h
        · split at h
          · cases h
          · cases h
    · cases h
  · cases h
theorem mj_nx_call {q : Nat × List mj_V × List mj_V × Nat} (h : mj_nx y w f pc ls st = some (.inr (.inl q))) : ∃ i, mj_dec y pc = some i ∧ mj_callee y i w st = some q ∧ (mj_imp y = true ∨ mj_imp q.1 = false) := by
  unfold mj_nx at h
  split at h
  · next i hi =>
    split at h
    · split at h
      · cases h
      · split at h
        · next r hr =>
          split at h
          · next hk =>
            cases h
            exact ⟨i, hi, hr, hk⟩
          · cases h
        · split at h
          · cases h
          · cases h
    · cases h
  · cases h
theorem mj_nx_stp {q : mj_T} (h : mj_nx y w f pc ls st = some (.inr (.inr q))) : ∃ i, mj_dec y pc = some i ∧ mj_stp y i w f pc ls st = some q ∧ (mj_imp y = true ∨ mj_keepw y i = true) := by
  unfold mj_nx at h
  split at h
  · next i hi =>
    split at h
    · next hk =>
      split at h
      · cases h
      · split at h
        · split at h <;> cases h
        · split at h
          · next r hr =>
            cases h
            exact ⟨i, hi, hr, hk⟩
          · cases h
    · cases h
  · cases h
theorem mj_end_inv {i : Instr} {v : Option mj_V} (hwf : mj_wf w) (hr : ∀ a j, mj_rg (f a j)) (ho : ∀ v ∈ st, mj_okv v) (h : mj_end y i w st = some (w', v)) : mj_J w f w' f ∧ ∀ u, v = some u → mj_okv u := by
  unfold mj_end at h
  split at h
  · split at h
    · split at h
      · cases h
        exact ⟨mj_J_rf hwf hr, fun u hu => by cases hu; exact ho _ List.mem_cons_self⟩
      · cases h
    · cases h
  · split at h
    · split at h
      · cases h
        exact ⟨mj_J_rf hwf hr, fun u hu => by cases hu; exact trivial⟩
      · cases h
    · cases h
  · split at h
    · split at h
      · cases h
        exact ⟨mj_J_rf hwf hr, fun u hu => by cases hu⟩
      · cases h
    · cases h
  · split at h
    · cases h
      refine ⟨⟨⟨by show 2 ≤ w.2.2.1 + 1; have := hwf.1; omega, fun a ha => ?_, fun a ha => hwf.2.2 a ha⟩, hr, rfl, rfl, by show w.2.2.1 ≤ w.2.2.1 + 1; omega, by show w.2.2.2 ≤ w.2.2.2 + 6; omega, fun _ _ => rfl⟩, fun u hu => by cases hu; exact trivial⟩
      have := hwf.2.1 a ha
      show 2 ≤ a ∧ a < w.2.2.1 + 1
      omega
    · cases h
  · cases h
theorem mj_ret_inv {k : Nat} {v v' : Option mj_V} (hwf : mj_wf w) (hr : ∀ a j, mj_rg (f a j)) (hk : k ≠ 0 → mj_lv w k) (hv : ∀ u, v = some u → mj_okv u) (h : mj_ret k f v = some (f', v')) (he : ∀ n, v = some (.inr (.inr (.inr n))) → n < 100) : mj_J w f w f' ∧ ∀ u, v' = some u → mj_okv u := by
  unfold mj_ret at h
  split at h
  · cases h
  · cases h
    exact ⟨mj_J_rf hwf hr, hv⟩
  · next k r =>
    cases h
    exact ⟨mj_J_u hwf hr (hk (by omega)) (hv _ rfl), fun u hu => by cases hu; exact mj_rg0⟩
  · next k n =>
    cases h
    have := he n rfl
    exact ⟨mj_J_rf hwf hr, fun u hu => by cases hu; exact ⟨by omega, by omega⟩⟩
  · cases h
end MJ
theorem mj_exc_all : ((List.range 26).all fun cn => (mj_cts.getD cn []).all fun e => decide (e.2.2.1 < 100) || decide (e.2.1 ≠ 11)) = true := by decide +kernel
theorem mj_pad_ok {y : Nat} {as : List mj_V} (ho : ∀ v ∈ as, mj_okv v) : ∀ v ∈ mj_pad y as, mj_okv v := by
  intro v hv
  unfold mj_pad at hv
  rcases List.mem_append.mp hv with h | h
  · exact ho v h
  · rw [(List.mem_replicate.mp h).2]
    exact trivial
theorem mj_end_exc {y : Nat} {i : Instr} {w w' : mj_W} {st : List mj_V} {k : Nat} (h : mj_end y i w st = some (w', some (.inr (.inr (.inr k))))) : k < 100 := by
  unfold mj_end at h
  split at h
  · split at h
    · split at h <;> cases h
    · cases h
  · split at h
    · split at h <;> cases h
    · cases h
  · split at h
    · split at h <;> cases h
    · cases h
  · split at h
    · next k' q hq =>
      cases h
      have hm := mj_look_mem _ _ _ hq
      have hl := mj_look_lt hq
      rw [mj_cts_len] at hl
      have h1 := List.all_eq_true.mp (List.all_eq_true.mp mj_exc_all _ (List.mem_range.mpr hl)) _ hm
      simpa using h1
    · cases h
  · cases h
/-- a run of ours keeps what must stay -/
theorem mj_exec_inv : ∀ (n y : Nat) (w : mj_W) (f : mj_F) (pc : Nat) (ls st : List mj_V) (r : mj_O), mj_exec n y w f pc ls st = some r → mj_wf w → (∀ a j, mj_rg (f a j)) → (∀ v ∈ ls, mj_okv v) → (∀ v ∈ st, mj_okv v) → mj_J w f r.1 r.2.1 ∧ (∀ u, r.2.2 = some u → mj_okv u) ∧ ∀ k, r.2.2 = some (.inr (.inr (.inr k))) → k < 100 := by
  intro n
  induction n with
  | zero => intro y w f pc ls st r h; simp [mj_exec] at h
  | succ n ih =>
    intro y w f pc ls st r h hwf hr hl ho
    rw [mj_exec] at h
    cases hn : mj_nx y w f pc ls st with
    | none => rw [hn] at h; simp at h
    | some q =>
      rw [hn] at h
      rcases q with ⟨w', v⟩ | ⟨cy, as, rest, k⟩ | ⟨w', f', pc', ls', st'⟩
      · cases h
        obtain ⟨i, -, he, -⟩ := mj_nx_end hn
        obtain ⟨h1, h2⟩ := mj_end_inv (f := f) hwf hr ho he
        exact ⟨h1, h2, fun k hk => mj_end_exc (by rw [← hk]; exact he)⟩
      · dsimp only at h
        obtain ⟨i, -, hc, -⟩ := mj_nx_call hn
        obtain ⟨m1, m2, m3⟩ := mj_callee_mem hc
        cases hx : mj_exec n cy w f 0 (mj_pad cy as) [] with
        | none => rw [hx] at h; simp at h
        | some q =>
          obtain ⟨w', f', v⟩ := q
          rw [hx] at h
          dsimp only at h
          obtain ⟨g1, g2, g3⟩ := ih _ _ _ _ _ _ _ hx hwf hr (mj_pad_ok (fun v hv => ho v (m1 v hv))) (fun v hv => by cases hv)
          cases hrt : mj_ret k f' v with
          | none => rw [hrt] at h; simp at h
          | some q =>
            obtain ⟨f'', v'⟩ := q
            rw [hrt] at h
            dsimp only at h
            have hkl : k ≠ 0 → mj_lv w' k := fun hk => by
              have h3 := m3 hk
              have hlv : mj_lv w k := by unfold mj_lv; rw [h3]; omega
              unfold mj_lv
              rw [g1.2.2.2.2.2.2 k hlv]
              exact hlv
            obtain ⟨j1, j2⟩ := mj_ret_inv (w := w') g1.1 g1.2.1 hkl g2 hrt g3
            obtain ⟨e1, e2⟩ := ih _ _ _ _ _ _ _ h j1.1 j1.2.1 hl (fun u hu => by
              rcases List.mem_append.mp hu with hu | hu
              · exact j2 u (by cases v' with | none => cases hu | some x => rw [List.mem_singleton.mp hu])
              · exact ho u (m2 u hu))
            exact ⟨mj_J_tr (mj_J_tr g1 j1) e1, e2⟩
      · dsimp only at h
        obtain ⟨i, -, hs, -⟩ := mj_nx_stp hn
        obtain ⟨j1, j2, j3⟩ := mj_stp_inv hwf hr hl ho hs
        obtain ⟨e1, e2⟩ := ih _ _ _ _ _ _ _ h j1.1 j1.2.1 j2 j3
        exact ⟨mj_J_tr j1 e1, e2⟩
