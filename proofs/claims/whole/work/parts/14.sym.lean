/-! Rows of our own machine, goal first: an instruction each; what a method that makes no cell leaves alone. -/
def mj_gd (c : Prop) [Decidable c] (x : Option mj_O) : Option mj_O := if c then x else none
def mj_bi (o : Option mj_O) (k : mj_F → Int → Option mj_O) : Option mj_O := match o with
  | some (_, f, some (.inl x)) => k f x
  | _ => none
def mj_bu (o : Option mj_O) (k : mj_F → Option mj_O) : Option mj_O := match o with
  | some (_, f, none) => k f
  | _ => none
def mj_ba (o : Option mj_O) (k : mj_F → Nat → Option mj_O) : Option mj_O := match o with
  | some (_, f, some (.inr (.inl a))) => k f a
  | _ => none
theorem mj_bi_some (w : mj_W) (f : mj_F) (x : Int) (k : mj_F → Int → Option mj_O) : mj_bi (some (w, f, some (.inl x))) k = k f x := rfl
theorem mj_bu_some (w : mj_W) (f : mj_F) (k : mj_F → Option mj_O) : mj_bu (some (w, f, none)) k = k f := rfl
theorem mj_ba_some (w : mj_W) (f : mj_F) (a : Nat) (k : mj_F → Nat → Option mj_O) : mj_ba (some (w, f, some (.inr (.inl a)))) k = k f a := rfl
theorem mj_gd_pos {c : Prop} [Decidable c] (h : c) (x : Option mj_O) : mj_gd c x = x := if_pos h
section MS
variable {y : Nat} {w w' : mj_W} {f f' : mj_F} {pc p' : Nat} {ls ls' st st' : List mj_V} {X : Option mj_O}
theorem mj_stp_w {i : Instr} (hk : mj_keepw y i = true) (h : mj_stp y i w f pc ls st = some (w', f', p', ls', st')) : w' = w := by
  have hj : ∀ {off : Int} {r : List mj_V}, mj_jmp w f pc off ls r = some (w', f', p', ls', st') → w' = w := fun h => (mj_jmp_ok h).2.1
  have hi : ∀ {c0 : Prop} [Decidable c0] {off : Int} {r : List mj_V}, mj_if c0 w f pc off ls r = some (w', f', p', ls', st') → w' = w := fun h => (mj_J_if h).1
  cases i with
  | getfield idx =>
    simp only [mj_stp, mj_getf] at h
    split at h
    · split at h
      · split at h
        · split at h
          · cases h
          · cases h; rfl
        · cases h; rfl
      · cases h
    · cases h
  | putfield idx =>
    simp only [mj_stp, mj_putf] at h
    split at h
    · split at h
      · split at h
        · cases h; rfl
        · cases h
      · cases h
    · next hq =>
      split at h
      · split at h
        · next hw =>
          simp [mj_keepw, hq, hw.2.1] at hk
        · cases h
      · cases h
    · cases h
  | goto off => exact hj h
  | ifCond cc off =>
    simp only [mj_stp] at h
    split at h
    · cases cc <;> exact hi h
    · cases h
  | if_icmp cc off =>
    simp only [mj_stp] at h
    split at h
    · cases cc <;> exact hi h
    · cases h
  | tableswitch dflt lo hi offs =>
    simp only [mj_stp] at h
    split at h
    · split at h
      · exact hj h
      · split at h
        · exact hj h
        · cases h
    · cases h
  | lookupswitch dflt ps =>
    simp only [mj_stp] at h
    split at h
    · split at h
      · exact hj h
      · cases h
    · cases h
  | new idx => cases hk
  | newarray ty => cases hk
  | anewarray idx => cases hk
  | aastore => cases hk
  | _ => first
    | (cases h; done)
    | (cases h; rfl)
    | (simp only [mj_stp, mj_ldi, mj_ldl, mj_lda, mj_sti, mj_stl, mj_sta, mj_b2, mj_b1, mj_l2, mj_iald, mj_bald, mj_lald, mj_aald, mj_iast, mj_bast, mj_alen, mj_spec, mj_copy] at h
       repeat' split at h
       all_goals first | (cases h; rfl) | (cases h; done))
end MS
/-- a method that makes no cell leaves the cells alone, and answers as its type says -/
theorem mj_pure : ∀ (n y : Nat) (w : mj_W) (f : mj_F) (pc : Nat) (ls st : List mj_V) (r : mj_O), mj_exec n y w f pc ls st = some r → mj_imp y = false → r.1 = w ∧ (mj_rt y = none → r.2.2 = none) ∧ ((mj_rt y = some .int ∨ mj_rt y = some .boolean) → ∃ x, r.2.2 = some (.inl x)) := by
  intro n
  induction n with
  | zero => intro y w f pc ls st r h; simp [mj_exec] at h
  | succ n ih =>
    intro y w f pc ls st r h hy
    rw [mj_exec] at h
    cases hn : mj_nx y w f pc ls st with
    | none => rw [hn] at h; simp at h
    | some q =>
      rw [hn] at h
      rcases q with ⟨w', v⟩ | ⟨cy, as, rest, k⟩ | ⟨w', f', pc', ls', st'⟩
      · cases h
        obtain ⟨i, -, he, hk⟩ := mj_nx_end hn
        rw [hy] at hk
        have hk : mj_keepw y i = true := by rcases hk with h | h; cases h; exact h
        unfold mj_end at he
        split at he
        · split at he
          · split at he
            · next hrt =>
              cases he
              refine ⟨rfl, fun h => ?_, fun _ => ⟨_, rfl⟩⟩
              rw [h] at hrt
              rcases hrt with h | ⟨h, -⟩ <;> cases h
            · cases he
          · cases he
        · split at he
          · split at he
            · next hrt =>
              cases he
              refine ⟨rfl, fun h => ?_, fun h => ?_⟩
              · rw [h] at hrt
                cases hrt.2
              · rw [hrt.2] at h
                rcases h with h | h <;> cases h
            · cases he
          · cases he
        · split at he
          · split at he
            · next hrt =>
              cases he
              refine ⟨rfl, fun _ => rfl, fun h => ?_⟩
              rw [hrt] at h
              rcases h with h | h <;> cases h
            · cases he
          · cases he
        · cases hk
        · cases he
      · dsimp only at h
        obtain ⟨i, -, hc, hk⟩ := mj_nx_call hn
        rw [hy] at hk
        have hk : mj_imp cy = false := by rcases hk with h | h; cases h; exact h
        cases hx : mj_exec n cy w f 0 (mj_pad cy as) [] with
        | none => rw [hx] at h; simp at h
        | some q =>
          obtain ⟨w', f', v⟩ := q
          rw [hx] at h
          dsimp only at h
          have hw := (ih _ _ _ _ _ _ _ hx hk).1
          cases hrt : mj_ret k f' v with
          | none => rw [hrt] at h; simp at h
          | some q =>
            obtain ⟨f'', v'⟩ := q
            rw [hrt] at h
            dsimp only at h
            have h2 := ih _ _ _ _ _ _ _ h hy
            exact ⟨h2.1.trans hw, h2.2⟩
      · dsimp only at h
        obtain ⟨i, -, hs, hk⟩ := mj_nx_stp hn
        rw [hy] at hk
        have hk : mj_keepw y i = true := by rcases hk with h | h; cases h; exact h
        have hw := mj_stp_w hk hs
        have h2 := ih _ _ _ _ _ _ _ h hy
        exact ⟨h2.1.trans hw, h2.2⟩
theorem mj_call_pure {cy : Nat} {w : mj_W} {f : mj_F} {as : List mj_V} {r : mj_O} (h : mj_call cy w f as = some r) (hy : mj_imp cy = false) : r.1 = w ∧ (mj_rt cy = none → r.2.2 = none) ∧ ((mj_rt cy = some .int ∨ mj_rt cy = some .boolean) → ∃ x, r.2.2 = some (.inl x)) := by
  obtain ⟨n, hn⟩ := mj_run_ex h
  exact mj_pure n _ _ _ _ _ _ _ hn hy
section MS
variable {y : Nat} {w w' : mj_W} {f f' : mj_F} {pc p' : Nat} {ls ls' st st' : List mj_V} {X : Option mj_O}
theorem mj_run_none (h : mj_nx y w f pc ls st = none) : mj_run y w f pc ls st = none := by
  cases hr : mj_run y w f pc ls st with
  | none => rfl
  | some r =>
    obtain ⟨n, hn⟩ := mj_run_ex hr
    cases n with
    | zero => simp [mj_exec] at hn
    | succ n => rw [mj_exec, h] at hn; cases hn
theorem mj_j_pos {off : Int} {t : Nat} (h : mj_j pc off = some t) : 0 ≤ (pc : Int) + off := by
  unfold mj_j at h
  split at h
  · assumption
  · cases h
theorem ms_run {i : Instr} (d : mj_dec y pc = some i) (hk : mj_keepw y i = true) (he : mj_end y i w st = none) (hc : mj_callee y i w st = none) (hs : mj_stp y i w f pc ls st = some (w', f', p', ls', st')) (h : mj_run y w' f' p' ls' st' = X) : mj_run y w f pc ls st = X :=
  (mj_run_step (by unfold mj_nx; rw [d]; dsimp only; rw [if_pos (Or.inr hk), he, hc, hs])).trans h
theorem ms_iconst {n v : Int} (d : mj_dec y pc = some (.iconst n) ∧ (Int32.ofInt n).toInt = v) (hp : pc + 1 = p') (h : mj_run y w f p' ls (.inl v :: st) = X) : mj_run y w f pc ls st = X := by
  obtain ⟨d, rfl⟩ := d
  subst hp
  exact ms_run d rfl rfl rfl rfl h
theorem ms_bipush {n v : Int} (d : mj_dec y pc = some (.bipush n) ∧ (Int8.ofInt n).toInt32.toInt = v) (hp : pc + 2 = p') (h : mj_run y w f p' ls (.inl v :: st) = X) : mj_run y w f pc ls st = X := by
  obtain ⟨d, rfl⟩ := d
  subst hp
  exact ms_run d rfl rfl rfl rfl h
theorem ms_sipush {n v : Int} (d : mj_dec y pc = some (.sipush n) ∧ (Int16.ofInt n).toInt32.toInt = v) (hp : pc + 3 = p') (h : mj_run y w f p' ls (.inl v :: st) = X) : mj_run y w f pc ls st = X := by
  obtain ⟨d, rfl⟩ := d
  subst hp
  exact ms_run d rfl rfl rfl rfl h
theorem ms_ldc {idx : Nat} {v : Int} (d : mj_dec y pc = some (.ldc idx) ∧ (mj_kl (mj_cn y) idx).map (fun q => q.1.toInt) = some v) (hp : pc + 2 = p') (h : mj_run y w f p' ls (.inl v :: st) = X) : mj_run y w f pc ls st = X := by
  obtain ⟨d, hv⟩ := d
  subst hp
  cases hq : mj_kl (mj_cn y) idx with
  | none => rw [hq] at hv; cases hv
  | some q =>
    rw [hq] at hv
    cases hv
    refine ms_run d rfl rfl rfl ?_ h
    simp only [mj_stp, hq]
theorem ms_ldc_w {idx : Nat} {v : Int} (d : mj_dec y pc = some (.ldc_w idx) ∧ (mj_kl (mj_cn y) idx).map (fun q => q.1.toInt) = some v) (hp : pc + 3 = p') (h : mj_run y w f p' ls (.inl v :: st) = X) : mj_run y w f pc ls st = X := by
  obtain ⟨d, hv⟩ := d
  subst hp
  cases hq : mj_kl (mj_cn y) idx with
  | none => rw [hq] at hv; cases hv
  | some q =>
    rw [hq] at hv
    cases hv
    refine ms_run d rfl rfl rfl ?_ h
    simp only [mj_stp, hq]
theorem ms_lconst {n : Fin 2} {v : Int} (d : mj_dec y pc = some (.lconst n) ∧ ((n : Nat) : Int) = v) (hp : pc + 1 = p') (h : mj_run y w f p' ls (.inr (.inr (.inl v)) :: st) = X) : mj_run y w f pc ls st = X := by
  obtain ⟨d, rfl⟩ := d
  subst hp
  exact ms_run d rfl rfl rfl rfl h
theorem ms_iload {k : Nat} {v : Int} (d : mj_dec y pc = some (.iload k)) (hp : pc + 2 = p') (hl : ls[k]? = some (.inl v)) (h : mj_run y w f p' ls (.inl v :: st) = X) : mj_run y w f pc ls st = X := by
  subst hp
  refine ms_run d rfl rfl rfl ?_ h
  simp only [mj_stp, mj_ldi, hl]
theorem ms_iload_n {k : Fin 4} {v : Int} (d : mj_dec y pc = some (.iload_n k)) (hp : pc + 1 = p') (hl : ls[(k : Nat)]? = some (.inl v)) (h : mj_run y w f p' ls (.inl v :: st) = X) : mj_run y w f pc ls st = X := by
  subst hp
  refine ms_run d rfl rfl rfl ?_ h
  simp only [mj_stp, mj_ldi, hl]
theorem ms_aload {k : Nat} {v : Nat} (d : mj_dec y pc = some (.aload k)) (hp : pc + 2 = p') (hl : ls[k]? = some (.inr (.inl v))) (h : mj_run y w f p' ls (.inr (.inl v) :: st) = X) : mj_run y w f pc ls st = X := by
  subst hp
  refine ms_run d rfl rfl rfl ?_ h
  simp only [mj_stp, mj_lda, hl]
theorem ms_aload_n {k : Fin 4} {v : Nat} (d : mj_dec y pc = some (.aload_n k)) (hp : pc + 1 = p') (hl : ls[(k : Nat)]? = some (.inr (.inl v))) (h : mj_run y w f p' ls (.inr (.inl v) :: st) = X) : mj_run y w f pc ls st = X := by
  subst hp
  refine ms_run d rfl rfl rfl ?_ h
  simp only [mj_stp, mj_lda, hl]
theorem ms_lload {k : Nat} {v : Int} (d : mj_dec y pc = some (.lload k)) (hp : pc + 2 = p') (hl : ls[k]? = some (.inr (.inr (.inl v)))) (h : mj_run y w f p' ls (.inr (.inr (.inl v)) :: st) = X) : mj_run y w f pc ls st = X := by
  subst hp
  refine ms_run d rfl rfl rfl ?_ h
  simp only [mj_stp, mj_ldl, hl]
theorem ms_lload_n {k : Fin 4} {v : Int} (d : mj_dec y pc = some (.lload_n k)) (hp : pc + 1 = p') (hl : ls[(k : Nat)]? = some (.inr (.inr (.inl v)))) (h : mj_run y w f p' ls (.inr (.inr (.inl v)) :: st) = X) : mj_run y w f pc ls st = X := by
  subst hp
  refine ms_run d rfl rfl rfl ?_ h
  simp only [mj_stp, mj_ldl, hl]
theorem ms_istore {k : Nat} {v : Int} (d : mj_dec y pc = some (.istore k)) (hp : pc + 2 = p') (hk : k < ls.length) (hl : mj_set ls k (.inl v) = ls') (h : mj_run y w f p' ls' st = X) : mj_run y w f pc ls (.inl v :: st) = X := by
  subst hp
  subst hl
  refine ms_run d rfl rfl rfl ?_ h
  simp only [mj_stp, mj_sti, if_pos hk]
theorem ms_istore_n {k : Fin 4} {v : Int} (d : mj_dec y pc = some (.istore_n k)) (hp : pc + 1 = p') (hk : (k : Nat) < ls.length) (hl : mj_set ls k (.inl v) = ls') (h : mj_run y w f p' ls' st = X) : mj_run y w f pc ls (.inl v :: st) = X := by
  subst hp
  subst hl
  refine ms_run d rfl rfl rfl ?_ h
  simp only [mj_stp, mj_sti, if_pos hk]
theorem ms_astore {k : Nat} {v : Nat} (d : mj_dec y pc = some (.astore k)) (hp : pc + 2 = p') (hk : k < ls.length) (hl : mj_set ls k (.inr (.inl v)) = ls') (h : mj_run y w f p' ls' st = X) : mj_run y w f pc ls (.inr (.inl v) :: st) = X := by
  subst hp
  subst hl
  refine ms_run d rfl rfl rfl ?_ h
  simp only [mj_stp, mj_sta, if_pos hk]
theorem ms_astore_n {k : Fin 4} {v : Nat} (d : mj_dec y pc = some (.astore_n k)) (hp : pc + 1 = p') (hk : (k : Nat) < ls.length) (hl : mj_set ls k (.inr (.inl v)) = ls') (h : mj_run y w f p' ls' st = X) : mj_run y w f pc ls (.inr (.inl v) :: st) = X := by
  subst hp
  subst hl
  refine ms_run d rfl rfl rfl ?_ h
  simp only [mj_stp, mj_sta, if_pos hk]
theorem ms_lstore {k : Nat} {v : Int} (d : mj_dec y pc = some (.lstore k)) (hp : pc + 2 = p') (hk : k + 1 < ls.length) (hl : (mj_set ls k (.inr (.inr (.inl v)))).set (k + 1) (.inr (.inr (.inr 0))) = ls') (h : mj_run y w f p' ls' st = X) : mj_run y w f pc ls (.inr (.inr (.inl v)) :: st) = X := by
  subst hp
  subst hl
  refine ms_run d rfl rfl rfl ?_ h
  simp only [mj_stp, mj_stl, if_pos hk]
theorem ms_iinc {k : Nat} {n v : Int} (d : mj_dec y pc = some (.iinc k n)) (hp : pc + 3 = p') (hv : ls[k]? = some (.inl v)) (hl : mj_set ls k (.inl (mj_w (v + n))) = ls') (h : mj_run y w f p' ls' st = X) : mj_run y w f pc ls st = X := by
  subst hp
  subst hl
  refine ms_run d rfl rfl rfl ?_ h
  simp only [mj_stp, hv]
theorem ms_iadd {a b : Int} (d : mj_dec y pc = some .iadd) (hp : pc + 1 = p') (h : mj_run y w f p' ls (.inl (mj_w (a + b)) :: st) = X) : mj_run y w f pc ls (.inl b :: .inl a :: st) = X := by
  subst hp
  exact ms_run d rfl rfl rfl rfl h
theorem ms_isub {a b : Int} (d : mj_dec y pc = some .isub) (hp : pc + 1 = p') (h : mj_run y w f p' ls (.inl (mj_w (a - b)) :: st) = X) : mj_run y w f pc ls (.inl b :: .inl a :: st) = X := by
  subst hp
  exact ms_run d rfl rfl rfl rfl h
theorem ms_imul {a b : Int} (d : mj_dec y pc = some .imul) (hp : pc + 1 = p') (h : mj_run y w f p' ls (.inl (mj_w (a * b)) :: st) = X) : mj_run y w f pc ls (.inl b :: .inl a :: st) = X := by
  subst hp
  exact ms_run d rfl rfl rfl rfl h
theorem ms_iand {a b : Int} (d : mj_dec y pc = some .iand) (hp : pc + 1 = p') (h : mj_run y w f p' ls (.inl (mj_and a b) :: st) = X) : mj_run y w f pc ls (.inl b :: .inl a :: st) = X := by
  subst hp
  exact ms_run d rfl rfl rfl rfl h
theorem ms_ior {a b : Int} (d : mj_dec y pc = some .ior) (hp : pc + 1 = p') (h : mj_run y w f p' ls (.inl (mj_or a b) :: st) = X) : mj_run y w f pc ls (.inl b :: .inl a :: st) = X := by
  subst hp
  exact ms_run d rfl rfl rfl rfl h
theorem ms_ishl {a b : Int} (d : mj_dec y pc = some .ishl) (hp : pc + 1 = p') (h : mj_run y w f p' ls (.inl (mj_shl a b) :: st) = X) : mj_run y w f pc ls (.inl b :: .inl a :: st) = X := by
  subst hp
  exact ms_run d rfl rfl rfl rfl h
theorem ms_ishr {a b : Int} (d : mj_dec y pc = some .ishr) (hp : pc + 1 = p') (h : mj_run y w f p' ls (.inl (mj_shr a b) :: st) = X) : mj_run y w f pc ls (.inl b :: .inl a :: st) = X := by
  subst hp
  exact ms_run d rfl rfl rfl rfl h
theorem ms_idiv {a b : Int} (d : mj_dec y pc = some .idiv) (hp : pc + 1 = p') (h : ¬ b = 0 → mj_run y w f p' ls (.inl (mj_div a b) :: st) = X) : mj_run y w f pc ls (.inl b :: .inl a :: st) = mj_gd (¬ b = 0) X := by
  subst hp
  unfold mj_gd
  by_cases hb : b = 0
  · rw [if_neg (fun q => q hb)]
    exact mj_run_none (by simp [mj_nx, d, mj_end, mj_callee, mj_stp, hb])
  · rw [if_pos hb]
    refine ms_run d rfl rfl rfl ?_ (h hb)
    simp only [mj_stp, if_neg hb]
theorem ms_irem {a b : Int} (d : mj_dec y pc = some .irem) (hp : pc + 1 = p') (h : ¬ b = 0 → mj_run y w f p' ls (.inl (mj_rem a b) :: st) = X) : mj_run y w f pc ls (.inl b :: .inl a :: st) = mj_gd (¬ b = 0) X := by
  subst hp
  unfold mj_gd
  by_cases hb : b = 0
  · rw [if_neg (fun q => q hb)]
    exact mj_run_none (by simp [mj_nx, d, mj_end, mj_callee, mj_stp, hb])
  · rw [if_pos hb]
    refine ms_run d rfl rfl rfl ?_ (h hb)
    simp only [mj_stp, if_neg hb]
theorem ms_ineg {a : Int} (d : mj_dec y pc = some .ineg) (hp : pc + 1 = p') (h : mj_run y w f p' ls (.inl (mj_w (-a)) :: st) = X) : mj_run y w f pc ls (.inl a :: st) = X := by
  subst hp
  exact ms_run d rfl rfl rfl rfl h
theorem ms_i2b {a : Int} (d : mj_dec y pc = some .i2b) (hp : pc + 1 = p') (h : mj_run y w f p' ls (.inl (mj_w8 a) :: st) = X) : mj_run y w f pc ls (.inl a :: st) = X := by
  subst hp
  exact ms_run d rfl rfl rfl rfl h
theorem ms_i2l {a : Int} (d : mj_dec y pc = some .i2l) (hp : pc + 1 = p') (h : mj_run y w f p' ls (.inr (.inr (.inl a)) :: st) = X) : mj_run y w f pc ls (.inl a :: st) = X := by
  subst hp
  exact ms_run d rfl rfl rfl rfl h
theorem ms_lsub {a b : Int} (d : mj_dec y pc = some .lsub) (hp : pc + 1 = p') (h : mj_run y w f p' ls (.inr (.inr (.inl (mj_w64 (a - b)))) :: st) = X) : mj_run y w f pc ls (.inr (.inr (.inl b)) :: .inr (.inr (.inl a)) :: st) = X := by
  subst hp
  exact ms_run d rfl rfl rfl rfl h
theorem ms_lmul {a b : Int} (d : mj_dec y pc = some .lmul) (hp : pc + 1 = p') (h : mj_run y w f p' ls (.inr (.inr (.inl (mj_w64 (a * b)))) :: st) = X) : mj_run y w f pc ls (.inr (.inr (.inl b)) :: .inr (.inr (.inl a)) :: st) = X := by
  subst hp
  exact ms_run d rfl rfl rfl rfl h
theorem ms_lcmp {a b : Int} (d : mj_dec y pc = some .lcmp) (hp : pc + 1 = p') (h : mj_run y w f p' ls (.inl (mj_cmp a b) :: st) = X) : mj_run y w f pc ls (.inr (.inr (.inl b)) :: .inr (.inr (.inl a)) :: st) = X := by
  subst hp
  exact ms_run d rfl rfl rfl rfl h
theorem ms_dup_i {a : Int} (d : mj_dec y pc = some .dup) (hp : pc + 1 = p') (h : mj_run y w f p' ls (.inl a :: .inl a :: st) = X) : mj_run y w f pc ls (.inl a :: st) = X := by
  subst hp
  exact ms_run d rfl rfl rfl rfl h
theorem ms_dup_a {a : Nat} (d : mj_dec y pc = some .dup) (hp : pc + 1 = p') (h : mj_run y w f p' ls (.inr (.inl a) :: .inr (.inl a) :: st) = X) : mj_run y w f pc ls (.inr (.inl a) :: st) = X := by
  subst hp
  exact ms_run d rfl rfl rfl rfl h
theorem ms_dup2 {a : Nat} {b : Int} (d : mj_dec y pc = some .dup2) (hp : pc + 1 = p') (h : mj_run y w f p' ls (.inl b :: .inr (.inl a) :: .inl b :: .inr (.inl a) :: st) = X) : mj_run y w f pc ls (.inl b :: .inr (.inl a) :: st) = X := by
  subst hp
  exact ms_run d rfl rfl rfl rfl h
theorem ms_pop_i {a : Int} (d : mj_dec y pc = some .pop) (hp : pc + 1 = p') (h : mj_run y w f p' ls st = X) : mj_run y w f pc ls (.inl a :: st) = X := by
  subst hp
  exact ms_run d rfl rfl rfl rfl h
theorem ms_goto {off : Int} (d : mj_dec y pc = some (.goto off) ∧ mj_j pc off = some p') (h : mj_run y w f p' ls st = X) : mj_run y w f pc ls st = X := by
  obtain ⟨d, hj⟩ := d
  refine ms_run d rfl rfl rfl ?_ h
  simp only [mj_stp, mj_jmp, hj]
theorem ms_icmp_eq {a b off : Int} {t : Nat} {X1 X2 : Option mj_O} (d : mj_dec y pc = some (.if_icmp .eq off) ∧ mj_j pc off = some t) (hp : pc + 3 = p') (h1 : a = b → mj_run y w f t ls st = X1) (h2 : ¬ (a = b) → mj_run y w f p' ls st = X2) : mj_run y w f pc ls (.inl b :: .inl a :: st) = if a = b then X1 else X2 := by
  obtain ⟨d, hj⟩ := d
  subst hp
  by_cases hc : a = b
  · rw [if_pos hc]
    refine ms_run d rfl rfl rfl ?_ (h1 hc)
    simp only [mj_stp, mj_if, mj_jmp, if_pos hc, hj]
  · rw [if_neg hc]
    refine ms_run d rfl rfl rfl ?_ (h2 hc)
    simp only [mj_stp, mj_if, if_neg hc, if_pos (mj_j_pos hj)]
theorem ms_icmp_ne {a b off : Int} {t : Nat} {X1 X2 : Option mj_O} (d : mj_dec y pc = some (.if_icmp .ne off) ∧ mj_j pc off = some t) (hp : pc + 3 = p') (h1 : ¬ a = b → mj_run y w f t ls st = X1) (h2 : ¬ (¬ a = b) → mj_run y w f p' ls st = X2) : mj_run y w f pc ls (.inl b :: .inl a :: st) = if ¬ a = b then X1 else X2 := by
  obtain ⟨d, hj⟩ := d
  subst hp
  by_cases hc : ¬ a = b
  · rw [if_pos hc]
    refine ms_run d rfl rfl rfl ?_ (h1 hc)
    simp only [mj_stp, mj_if, mj_jmp, if_pos hc, hj]
  · rw [if_neg hc]
    refine ms_run d rfl rfl rfl ?_ (h2 hc)
    simp only [mj_stp, mj_if, if_neg hc, if_pos (mj_j_pos hj)]
theorem ms_icmp_lt {a b off : Int} {t : Nat} {X1 X2 : Option mj_O} (d : mj_dec y pc = some (.if_icmp .lt off) ∧ mj_j pc off = some t) (hp : pc + 3 = p') (h1 : a < b → mj_run y w f t ls st = X1) (h2 : ¬ (a < b) → mj_run y w f p' ls st = X2) : mj_run y w f pc ls (.inl b :: .inl a :: st) = if a < b then X1 else X2 := by
  obtain ⟨d, hj⟩ := d
  subst hp
  by_cases hc : a < b
  · rw [if_pos hc]
    refine ms_run d rfl rfl rfl ?_ (h1 hc)
    simp only [mj_stp, mj_if, mj_jmp, if_pos hc, hj]
  · rw [if_neg hc]
    refine ms_run d rfl rfl rfl ?_ (h2 hc)
    simp only [mj_stp, mj_if, if_neg hc, if_pos (mj_j_pos hj)]
theorem ms_icmp_ge {a b off : Int} {t : Nat} {X1 X2 : Option mj_O} (d : mj_dec y pc = some (.if_icmp .ge off) ∧ mj_j pc off = some t) (hp : pc + 3 = p') (h1 : b ≤ a → mj_run y w f t ls st = X1) (h2 : ¬ (b ≤ a) → mj_run y w f p' ls st = X2) : mj_run y w f pc ls (.inl b :: .inl a :: st) = if b ≤ a then X1 else X2 := by
  obtain ⟨d, hj⟩ := d
  subst hp
  by_cases hc : b ≤ a
  · rw [if_pos hc]
    refine ms_run d rfl rfl rfl ?_ (h1 hc)
    simp only [mj_stp, mj_if, mj_jmp, if_pos hc, hj]
  · rw [if_neg hc]
    refine ms_run d rfl rfl rfl ?_ (h2 hc)
    simp only [mj_stp, mj_if, if_neg hc, if_pos (mj_j_pos hj)]
theorem ms_icmp_gt {a b off : Int} {t : Nat} {X1 X2 : Option mj_O} (d : mj_dec y pc = some (.if_icmp .gt off) ∧ mj_j pc off = some t) (hp : pc + 3 = p') (h1 : b < a → mj_run y w f t ls st = X1) (h2 : ¬ (b < a) → mj_run y w f p' ls st = X2) : mj_run y w f pc ls (.inl b :: .inl a :: st) = if b < a then X1 else X2 := by
  obtain ⟨d, hj⟩ := d
  subst hp
  by_cases hc : b < a
  · rw [if_pos hc]
    refine ms_run d rfl rfl rfl ?_ (h1 hc)
    simp only [mj_stp, mj_if, mj_jmp, if_pos hc, hj]
  · rw [if_neg hc]
    refine ms_run d rfl rfl rfl ?_ (h2 hc)
    simp only [mj_stp, mj_if, if_neg hc, if_pos (mj_j_pos hj)]
theorem ms_icmp_le {a b off : Int} {t : Nat} {X1 X2 : Option mj_O} (d : mj_dec y pc = some (.if_icmp .le off) ∧ mj_j pc off = some t) (hp : pc + 3 = p') (h1 : a ≤ b → mj_run y w f t ls st = X1) (h2 : ¬ (a ≤ b) → mj_run y w f p' ls st = X2) : mj_run y w f pc ls (.inl b :: .inl a :: st) = if a ≤ b then X1 else X2 := by
  obtain ⟨d, hj⟩ := d
  subst hp
  by_cases hc : a ≤ b
  · rw [if_pos hc]
    refine ms_run d rfl rfl rfl ?_ (h1 hc)
    simp only [mj_stp, mj_if, mj_jmp, if_pos hc, hj]
  · rw [if_neg hc]
    refine ms_run d rfl rfl rfl ?_ (h2 hc)
    simp only [mj_stp, mj_if, if_neg hc, if_pos (mj_j_pos hj)]
theorem ms_if_eq {a off : Int} {t : Nat} {X1 X2 : Option mj_O} (d : mj_dec y pc = some (.ifCond .eq off) ∧ mj_j pc off = some t) (hp : pc + 3 = p') (h1 : a = 0 → mj_run y w f t ls st = X1) (h2 : ¬ (a = 0) → mj_run y w f p' ls st = X2) : mj_run y w f pc ls (.inl a :: st) = if a = 0 then X1 else X2 := by
  obtain ⟨d, hj⟩ := d
  subst hp
  by_cases hc : a = 0
  · rw [if_pos hc]
    refine ms_run d rfl rfl rfl ?_ (h1 hc)
    simp only [mj_stp, mj_if, mj_jmp, if_pos hc, hj]
  · rw [if_neg hc]
    refine ms_run d rfl rfl rfl ?_ (h2 hc)
    simp only [mj_stp, mj_if, if_neg hc, if_pos (mj_j_pos hj)]
theorem ms_if_ne {a off : Int} {t : Nat} {X1 X2 : Option mj_O} (d : mj_dec y pc = some (.ifCond .ne off) ∧ mj_j pc off = some t) (hp : pc + 3 = p') (h1 : ¬ a = 0 → mj_run y w f t ls st = X1) (h2 : ¬ (¬ a = 0) → mj_run y w f p' ls st = X2) : mj_run y w f pc ls (.inl a :: st) = if ¬ a = 0 then X1 else X2 := by
  obtain ⟨d, hj⟩ := d
  subst hp
  by_cases hc : ¬ a = 0
  · rw [if_pos hc]
    refine ms_run d rfl rfl rfl ?_ (h1 hc)
    simp only [mj_stp, mj_if, mj_jmp, if_pos hc, hj]
  · rw [if_neg hc]
    refine ms_run d rfl rfl rfl ?_ (h2 hc)
    simp only [mj_stp, mj_if, if_neg hc, if_pos (mj_j_pos hj)]
theorem ms_if_lt {a off : Int} {t : Nat} {X1 X2 : Option mj_O} (d : mj_dec y pc = some (.ifCond .lt off) ∧ mj_j pc off = some t) (hp : pc + 3 = p') (h1 : a < 0 → mj_run y w f t ls st = X1) (h2 : ¬ (a < 0) → mj_run y w f p' ls st = X2) : mj_run y w f pc ls (.inl a :: st) = if a < 0 then X1 else X2 := by
  obtain ⟨d, hj⟩ := d
  subst hp
  by_cases hc : a < 0
  · rw [if_pos hc]
    refine ms_run d rfl rfl rfl ?_ (h1 hc)
    simp only [mj_stp, mj_if, mj_jmp, if_pos hc, hj]
  · rw [if_neg hc]
    refine ms_run d rfl rfl rfl ?_ (h2 hc)
    simp only [mj_stp, mj_if, if_neg hc, if_pos (mj_j_pos hj)]
theorem ms_if_ge {a off : Int} {t : Nat} {X1 X2 : Option mj_O} (d : mj_dec y pc = some (.ifCond .ge off) ∧ mj_j pc off = some t) (hp : pc + 3 = p') (h1 : 0 ≤ a → mj_run y w f t ls st = X1) (h2 : ¬ (0 ≤ a) → mj_run y w f p' ls st = X2) : mj_run y w f pc ls (.inl a :: st) = if 0 ≤ a then X1 else X2 := by
  obtain ⟨d, hj⟩ := d
  subst hp
  by_cases hc : 0 ≤ a
  · rw [if_pos hc]
    refine ms_run d rfl rfl rfl ?_ (h1 hc)
    simp only [mj_stp, mj_if, mj_jmp, if_pos hc, hj]
  · rw [if_neg hc]
    refine ms_run d rfl rfl rfl ?_ (h2 hc)
    simp only [mj_stp, mj_if, if_neg hc, if_pos (mj_j_pos hj)]
theorem ms_if_gt {a off : Int} {t : Nat} {X1 X2 : Option mj_O} (d : mj_dec y pc = some (.ifCond .gt off) ∧ mj_j pc off = some t) (hp : pc + 3 = p') (h1 : 0 < a → mj_run y w f t ls st = X1) (h2 : ¬ (0 < a) → mj_run y w f p' ls st = X2) : mj_run y w f pc ls (.inl a :: st) = if 0 < a then X1 else X2 := by
  obtain ⟨d, hj⟩ := d
  subst hp
  by_cases hc : 0 < a
  · rw [if_pos hc]
    refine ms_run d rfl rfl rfl ?_ (h1 hc)
    simp only [mj_stp, mj_if, mj_jmp, if_pos hc, hj]
  · rw [if_neg hc]
    refine ms_run d rfl rfl rfl ?_ (h2 hc)
    simp only [mj_stp, mj_if, if_neg hc, if_pos (mj_j_pos hj)]
theorem ms_if_le {a off : Int} {t : Nat} {X1 X2 : Option mj_O} (d : mj_dec y pc = some (.ifCond .le off) ∧ mj_j pc off = some t) (hp : pc + 3 = p') (h1 : a ≤ 0 → mj_run y w f t ls st = X1) (h2 : ¬ (a ≤ 0) → mj_run y w f p' ls st = X2) : mj_run y w f pc ls (.inl a :: st) = if a ≤ 0 then X1 else X2 := by
  obtain ⟨d, hj⟩ := d
  subst hp
  by_cases hc : a ≤ 0
  · rw [if_pos hc]
    refine ms_run d rfl rfl rfl ?_ (h1 hc)
    simp only [mj_stp, mj_if, mj_jmp, if_pos hc, hj]
  · rw [if_neg hc]
    refine ms_run d rfl rfl rfl ?_ (h2 hc)
    simp only [mj_stp, mj_if, if_neg hc, if_pos (mj_j_pos hj)]
theorem ms_geti {idx ci k q a : Nat} (d : mj_dec y pc = some (.getfield idx) ∧ mj_fl (mj_cn y) idx = some (ci, k, q) ∧ mj_kind ci k ≠ 2) (hp : pc + 3 = p') (hw : w.1 a = (ci, 0)) (h : mj_run y w f p' ls (.inl (f a k) :: st) = X) : mj_run y w f pc ls (.inr (.inl a) :: st) = X := by
  obtain ⟨d, hf, hk⟩ := d
  subst hp
  refine ms_run d rfl rfl rfl ?_ h
  simp only [mj_stp, mj_getf, hf, if_pos hw, if_neg hk]
theorem ms_getr {idx ci k q a r : Nat} (d : mj_dec y pc = some (.getfield idx) ∧ mj_fl (mj_cn y) idx = some (ci, k, q) ∧ mj_kind ci k = 2) (hp : pc + 3 = p') (hw : w.1 a = (ci, 0)) (hr : w.2.1 a k = r) (h0 : ¬ r = 0) (h : mj_run y w f p' ls (.inr (.inl r) :: st) = X) : mj_run y w f pc ls (.inr (.inl a) :: st) = X := by
  obtain ⟨d, hf, hk⟩ := d
  subst hp
  refine ms_run d rfl rfl rfl ?_ h
  simp only [mj_stp, mj_getf, hf, if_pos hw, if_pos hk, hr, if_neg h0]
theorem ms_puti {idx ci k q a : Nat} {v : Int} (d : mj_dec y pc = some (.putfield idx) ∧ mj_fl (mj_cn y) idx = some (ci, k, q) ∧ mj_kind ci k = 0 ∧ mj_mayPut y ci k = true) (hp : pc + 3 = p') (hw : w.1 a = (ci, 0)) (h : mj_run y w (mj_u f a k v) p' ls st = X) : mj_run y w f pc ls (.inl v :: .inr (.inl a) :: st) = X := by
  obtain ⟨d, hf, hk, hm⟩ := d
  subst hp
  refine ms_run d ?_ rfl rfl ?_ h
  · simp [mj_keepw, hf, hk]
  · simp only [mj_stp, mj_putf, hf, if_pos hm]
    rw [if_pos ⟨hw, Or.inl hk⟩]
theorem ms_putz {idx ci k q a : Nat} {v : Int} (d : mj_dec y pc = some (.putfield idx) ∧ mj_fl (mj_cn y) idx = some (ci, k, q) ∧ mj_kind ci k = 1 ∧ mj_mayPut y ci k = true) (hp : pc + 3 = p') (hw : w.1 a = (ci, 0)) (h : (v = 0 ∨ v = 1) → mj_run y w (mj_u f a k v) p' ls st = X) : mj_run y w f pc ls (.inl v :: .inr (.inl a) :: st) = mj_gd (v = 0 ∨ v = 1) X := by
  obtain ⟨d, hf, hk, hm⟩ := d
  subst hp
  have hkw : mj_keepw y (.putfield idx) = true := by simp [mj_keepw, hf, hk]
  unfold mj_gd
  by_cases hv : v = 0 ∨ v = 1
  · rw [if_pos hv]
    refine ms_run d hkw rfl rfl ?_ (h hv)
    simp only [mj_stp, mj_putf, hf, if_pos hm]
    rw [if_pos ⟨hw, Or.inr ⟨hk, hv⟩⟩]
  · rw [if_neg hv]
    refine mj_run_none ?_
    have h1 : ¬ (w.1 a = (ci, 0) ∧ (mj_kind ci k = 0 ∨ mj_kind ci k = 1 ∧ (v = 0 ∨ v = 1))) := fun q => by
      rcases q.2 with h | h
      · omega
      · exact hv h.2
    simp only [mj_nx, d, if_pos (Or.inr hkw : mj_imp y = true ∨ mj_keepw y (.putfield idx) = true), mj_end, mj_callee, mj_stp, mj_putf, hf, if_pos hm]
    rw [if_neg h1]
theorem ms_iald {a n : Nat} {j : Int} (d : mj_dec y pc = some .iaload) (hp : pc + 1 = p') (hw : w.1 a = (100, n)) (h : (0 ≤ j ∧ j < (n : Int)) → mj_run y w f p' ls (.inl (f a j.toNat) :: st) = X) : mj_run y w f pc ls (.inl j :: .inr (.inl a) :: st) = mj_gd (0 ≤ j ∧ j < (n : Int)) X := by
  subst hp
  unfold mj_gd
  by_cases hj : 0 ≤ j ∧ j < (n : Int)
  · rw [if_pos hj]
    refine ms_run d rfl rfl rfl ?_ (h hj)
    simp only [mj_stp, mj_iald]
    rw [if_pos ⟨Or.inl (by rw [hw]), by rw [hw]; exact hj⟩]
  · rw [if_neg hj]
    refine mj_run_none ?_
    have h1 : ¬ (((w.1 a).1 = 100 ∨ (w.1 a).1 = 104) ∧ 0 ≤ j ∧ j < (w.1 a).2) := fun q => hj (by rw [hw] at q; exact q.2)
    simp only [mj_nx, d, if_pos (Or.inr rfl : mj_imp y = true ∨ mj_keepw y .iaload = true), mj_end, mj_callee, mj_stp, mj_iald]
    rw [if_neg h1]
theorem ms_bald {a n : Nat} {j : Int} (d : mj_dec y pc = some .baload) (hp : pc + 1 = p') (hw : w.1 a = (101, n)) (h : (0 ≤ j ∧ j < (n : Int)) → mj_run y w f p' ls (.inl (f a j.toNat) :: st) = X) : mj_run y w f pc ls (.inl j :: .inr (.inl a) :: st) = mj_gd (0 ≤ j ∧ j < (n : Int)) X := by
  subst hp
  unfold mj_gd
  by_cases hj : 0 ≤ j ∧ j < (n : Int)
  · rw [if_pos hj]
    refine ms_run d rfl rfl rfl ?_ (h hj)
    simp only [mj_stp, mj_bald]
    rw [if_pos ⟨by rw [hw], by rw [hw]; exact hj⟩]
  · rw [if_neg hj]
    refine mj_run_none ?_
    have h1 : ¬ ((w.1 a).1 = 101 ∧ 0 ≤ j ∧ j < (w.1 a).2) := fun q => hj (by rw [hw] at q; exact q.2)
    simp only [mj_nx, d, if_pos (Or.inr rfl : mj_imp y = true ∨ mj_keepw y .baload = true), mj_end, mj_callee, mj_stp, mj_bald]
    rw [if_neg h1]
theorem ms_lald {a n : Nat} {j : Int} (d : mj_dec y pc = some .laload) (hp : pc + 1 = p') (hw : w.1 a = (103, n)) (h : (0 ≤ j ∧ j < (n : Int)) → mj_run y w f p' ls (.inr (.inr (.inl (f a j.toNat))) :: st) = X) : mj_run y w f pc ls (.inl j :: .inr (.inl a) :: st) = mj_gd (0 ≤ j ∧ j < (n : Int)) X := by
  subst hp
  unfold mj_gd
  by_cases hj : 0 ≤ j ∧ j < (n : Int)
  · rw [if_pos hj]
    refine ms_run d rfl rfl rfl ?_ (h hj)
    simp only [mj_stp, mj_lald]
    rw [if_pos ⟨by rw [hw], by rw [hw]; exact hj⟩]
  · rw [if_neg hj]
    refine mj_run_none ?_
    have h1 : ¬ ((w.1 a).1 = 103 ∧ 0 ≤ j ∧ j < (w.1 a).2) := fun q => hj (by rw [hw] at q; exact q.2)
    simp only [mj_nx, d, if_pos (Or.inr rfl : mj_imp y = true ∨ mj_keepw y .laload = true), mj_end, mj_callee, mj_stp, mj_lald]
    rw [if_neg h1]
theorem ms_sald {a n : Nat} {j : Int} (d : mj_dec y pc = some .iaload) (hp : pc + 1 = p') (hw : w.1 a = (104, n)) (h : (0 ≤ j ∧ j < (n : Int)) → mj_run y w f p' ls (.inl (f a j.toNat) :: st) = X) : mj_run y w f pc ls (.inl j :: .inr (.inl a) :: st) = mj_gd (0 ≤ j ∧ j < (n : Int)) X := by
  subst hp
  unfold mj_gd
  by_cases hj : 0 ≤ j ∧ j < (n : Int)
  · rw [if_pos hj]
    refine ms_run d rfl rfl rfl ?_ (h hj)
    simp only [mj_stp, mj_iald]
    rw [if_pos ⟨Or.inr (by rw [hw]), by rw [hw]; exact hj⟩]
  · rw [if_neg hj]
    refine mj_run_none ?_
    have h1 : ¬ (((w.1 a).1 = 100 ∨ (w.1 a).1 = 104) ∧ 0 ≤ j ∧ j < (w.1 a).2) := fun q => hj (by rw [hw] at q; exact q.2)
    simp only [mj_nx, d, if_pos (Or.inr rfl : mj_imp y = true ∨ mj_keepw y .iaload = true), mj_end, mj_callee, mj_stp, mj_iald]
    rw [if_neg h1]
theorem ms_aald {a n r : Nat} {j : Int} (d : mj_dec y pc = some .aaload) (hp : pc + 1 = p') (hw : w.1 a = (102, n)) (hr : (0 ≤ j ∧ j < (n : Int)) → w.2.1 a j.toNat = r ∧ r ≠ 0) (h : (0 ≤ j ∧ j < (n : Int)) → mj_run y w f p' ls (.inr (.inl r) :: st) = X) : mj_run y w f pc ls (.inl j :: .inr (.inl a) :: st) = mj_gd (0 ≤ j ∧ j < (n : Int)) X := by
  subst hp
  unfold mj_gd
  by_cases hj : 0 ≤ j ∧ j < (n : Int)
  · rw [if_pos hj]
    obtain ⟨h1, h2⟩ := hr hj
    refine ms_run d rfl rfl rfl ?_ (h hj)
    simp only [mj_stp, mj_aald]
    rw [if_pos ⟨by rw [hw], by rw [hw]; exact hj, by rw [h1]; exact h2⟩, h1]
  · rw [if_neg hj]
    refine mj_run_none ?_
    have h1 : ¬ ((w.1 a).1 = 102 ∧ (0 ≤ j ∧ j < (w.1 a).2) ∧ w.2.1 a j.toNat ≠ 0) := fun q => hj (by rw [hw] at q; exact q.2.1)
    simp only [mj_nx, d, if_pos (Or.inr rfl : mj_imp y = true ∨ mj_keepw y .aaload = true), mj_end, mj_callee, mj_stp, mj_aald]
    rw [if_neg h1]
theorem ms_iast {a n : Nat} {j v : Int} (d : mj_dec y pc = some .iastore) (hp : pc + 1 = p') (hw : w.1 a = (100, n)) (h : (0 ≤ j ∧ j < (n : Int)) → mj_run y w (mj_u f a j.toNat v) p' ls st = X) : mj_run y w f pc ls (.inl v :: .inl j :: .inr (.inl a) :: st) = mj_gd (0 ≤ j ∧ j < (n : Int)) X := by
  subst hp
  unfold mj_gd
  by_cases hj : 0 ≤ j ∧ j < (n : Int)
  · rw [if_pos hj]
    refine ms_run d rfl rfl rfl ?_ (h hj)
    simp only [mj_stp, mj_iast]
    rw [if_pos ⟨by rw [hw], by rw [hw]; exact hj⟩]
  · rw [if_neg hj]
    refine mj_run_none ?_
    have h1 : ¬ ((w.1 a).1 = 100 ∧ 0 ≤ j ∧ j < (w.1 a).2) := fun q => hj (by rw [hw] at q; exact q.2)
    simp only [mj_nx, d, if_pos (Or.inr rfl : mj_imp y = true ∨ mj_keepw y .iastore = true), mj_end, mj_callee, mj_stp, mj_iast]
    rw [if_neg h1]
theorem ms_bast {a n : Nat} {j v : Int} (d : mj_dec y pc = some .bastore) (hp : pc + 1 = p') (hw : w.1 a = (101, n)) (h : (0 ≤ j ∧ j < (n : Int)) → mj_run y w (mj_u f a j.toNat (mj_w8 v)) p' ls st = X) : mj_run y w f pc ls (.inl v :: .inl j :: .inr (.inl a) :: st) = mj_gd (0 ≤ j ∧ j < (n : Int)) X := by
  subst hp
  unfold mj_gd
  by_cases hj : 0 ≤ j ∧ j < (n : Int)
  · rw [if_pos hj]
    refine ms_run d rfl rfl rfl ?_ (h hj)
    simp only [mj_stp, mj_bast]
    rw [if_pos ⟨by rw [hw], by rw [hw]; exact hj⟩]
  · rw [if_neg hj]
    refine mj_run_none ?_
    have h1 : ¬ ((w.1 a).1 = 101 ∧ 0 ≤ j ∧ j < (w.1 a).2) := fun q => hj (by rw [hw] at q; exact q.2)
    simp only [mj_nx, d, if_pos (Or.inr rfl : mj_imp y = true ∨ mj_keepw y .bastore = true), mj_end, mj_callee, mj_stp, mj_bast]
    rw [if_neg h1]
theorem ms_alen {a k n : Nat} (d : mj_dec y pc = some .arraylength) (hp : pc + 1 = p') (hw : w.1 a = (k, n)) (hk : (100 ≤ k ∧ k ≤ 104) ∧ n < 2147483648) (h : mj_run y w f p' ls (.inl (n : Int) :: st) = X) : mj_run y w f pc ls (.inr (.inl a) :: st) = X := by
  subst hp
  refine ms_run d rfl rfl rfl ?_ h
  simp only [mj_stp, mj_alen, hw]
  rw [if_pos hk]
theorem ms_math2 {idx k x q : Nat} {a b v : Int} (d : mj_dec y pc = some (.invokestatic idx) ∧ mj_cl2 (mj_cn y) idx = some (k, x, q)) (hk : (k = 12 ∧ v = if a < b then b else a) ∨ (k = 13 ∧ v = if b < a then b else a)) (hp : pc + 3 = p') (hl : mj_low st = true) (h : mj_run y w f p' ls (.inl v :: st) = X) : mj_run y w f pc ls (.inl b :: .inl a :: st) = X := by
  obtain ⟨d, hq⟩ := d
  subst hp
  rcases hk with ⟨rfl, rfl⟩ | ⟨rfl, rfl⟩
  · refine ms_run d rfl rfl (by simp only [mj_callee, hq]) ?_ h
    simp only [mj_stp, mj_copy, hq, if_pos hl]
  · refine ms_run d rfl rfl (by simp only [mj_callee, hq]) ?_ h
    simp only [mj_stp, mj_copy, hq, if_pos hl]
theorem ms_abs {idx x q : Nat} {a : Int} (d : mj_dec y pc = some (.invokestatic idx) ∧ mj_cl2 (mj_cn y) idx = some (14, x, q)) (hp : pc + 3 = p') (hl : mj_low st = true) (h : mj_run y w f p' ls (.inl (if 0 ≤ a then a else mj_w (0 - a)) :: st) = X) : mj_run y w f pc ls (.inl a :: st) = X := by
  obtain ⟨d, hq⟩ := d
  subst hp
  refine ms_run d rfl rfl (by simp only [mj_callee, hq]) ?_ h
  simp only [mj_stp, mj_copy, hq, if_pos hl]
theorem ms_copy {idx x q a e na ne : Nat} {n dp sp : Int} (d : mj_dec y pc = some (.invokestatic idx) ∧ mj_cl2 (mj_cn y) idx = some (7, x, q)) (hp : pc + 3 = p') (hl : mj_low st = true) (ha : w.1 a = (100, na)) (he : w.1 e = (100, ne)) (h : (0 ≤ n ∧ 0 ≤ sp ∧ 0 ≤ dp ∧ sp + n ≤ (na : Int) ∧ dp + n ≤ (ne : Int)) → mj_run y w (mj_cpy f a sp.toNat e dp.toNat n.toNat) p' ls st = X) : mj_run y w f pc ls (.inl n :: .inl dp :: .inr (.inl e) :: .inl sp :: .inr (.inl a) :: st) = mj_gd (0 ≤ n ∧ 0 ≤ sp ∧ 0 ≤ dp ∧ sp + n ≤ (na : Int) ∧ dp + n ≤ (ne : Int)) X := by
  obtain ⟨d, hq⟩ := d
  subst hp
  have hc : mj_callee y (.invokestatic idx) w (.inl n :: .inl dp :: .inr (.inl e) :: .inl sp :: .inr (.inl a) :: st) = none := by simp only [mj_callee, hq]
  unfold mj_gd
  by_cases hj : 0 ≤ n ∧ 0 ≤ sp ∧ 0 ≤ dp ∧ sp + n ≤ (na : Int) ∧ dp + n ≤ (ne : Int)
  · rw [if_pos hj]
    refine ms_run d rfl rfl hc ?_ (h hj)
    simp only [mj_stp, mj_copy, hq]
    rw [if_pos ⟨by rw [ha], by rw [he], hj.1, hj.2.1, hj.2.2.1, by rw [ha]; exact hj.2.2.2.1, by rw [he]; exact hj.2.2.2.2, hl⟩]
  · rw [if_neg hj]
    refine mj_run_none ?_
    have h1 : ¬ ((w.1 a).1 = 100 ∧ (w.1 e).1 = 100 ∧ 0 ≤ n ∧ 0 ≤ sp ∧ 0 ≤ dp ∧ sp + n ≤ (w.1 a).2 ∧ dp + n ≤ (w.1 e).2 ∧ mj_low st = true) := fun q => hj (by rw [ha, he] at q; exact ⟨q.2.2.1, q.2.2.2.1, q.2.2.2.2.1, q.2.2.2.2.2.1, q.2.2.2.2.2.2.1⟩)
    simp only [mj_nx, d, if_pos (Or.inr rfl : mj_imp y = true ∨ mj_keepw y (.invokestatic idx) = true), mj_end, hc, mj_stp, mj_copy, hq]
    rw [if_neg h1]
theorem ms_iret {v : Int} (d : mj_dec y pc = some .ireturn ∧ mj_rt y = some .int) : mj_run y w f pc ls [.inl v] = some (w, f, some (.inl v)) := by
  refine mj_run_end ?_
  simp only [mj_nx, d.1, if_pos (Or.inr rfl : mj_imp y = true ∨ mj_keepw y .ireturn = true), mj_end]
  rw [if_pos (Or.inl d.2)]
theorem ms_zret {v : Int} (d : mj_dec y pc = some .ireturn ∧ mj_rt y = some .boolean) : mj_run y w f pc ls [.inl v] = mj_gd (v = 0 ∨ v = 1) (some (w, f, some (.inl v))) := by
  unfold mj_gd
  by_cases hv : v = 0 ∨ v = 1
  · rw [if_pos hv]
    refine mj_run_end ?_
    simp only [mj_nx, d.1, if_pos (Or.inr rfl : mj_imp y = true ∨ mj_keepw y .ireturn = true), mj_end]
    rw [if_pos (Or.inr ⟨d.2, hv⟩)]
  · rw [if_neg hv]
    refine mj_run_none ?_
    have h1 : ¬ (mj_rt y = some .int ∨ mj_rt y = some .boolean ∧ (v = 0 ∨ v = 1)) := fun q => by
      rcases q with q | q
      · rw [d.2] at q; cases q
      · exact hv q.2
    simp only [mj_nx, d.1, if_pos (Or.inr rfl : mj_imp y = true ∨ mj_keepw y .ireturn = true), mj_end, mj_callee, mj_stp]
    rw [if_neg h1]
theorem ms_aret {a : Nat} (d : mj_dec y pc = some .areturn ∧ mj_rt y = some (.object "ClockZones$Times")) (ha : 2 ≤ a) : mj_run y w f pc ls [.inr (.inl a)] = some (w, f, some (.inr (.inl a))) := by
  refine mj_run_end ?_
  simp only [mj_nx, d.1, if_pos (Or.inr rfl : mj_imp y = true ∨ mj_keepw y .areturn = true), mj_end]
  rw [if_pos ⟨ha, d.2⟩]
theorem ms_vret (d : mj_dec y pc = some .return_ ∧ mj_rt y = none) : mj_run y w f pc ls [] = some (w, f, none) := by
  refine mj_run_end ?_
  simp only [mj_nx, d.1, if_pos (Or.inr rfl : mj_imp y = true ∨ mj_keepw y .return_ = true), mj_end]
  rw [if_pos d.2]
theorem ms_tabIn {dflt lo hi a : Int} {offs : Array Int} {t : Nat} (d : mj_dec y pc = some (.tableswitch dflt lo hi offs)) (h1 : ¬ (a < lo ∨ hi < a)) (ho : (offs[(a - lo).toNat]?).bind (mj_j pc) = some t) (h : mj_run y w f t ls st = X) : mj_run y w f pc ls (.inl a :: st) = X := by
  cases hq : offs[(a - lo).toNat]? with
  | none => rw [hq] at ho; cases ho
  | some off =>
    rw [hq] at ho
    have ho : mj_j pc off = some t := ho
    refine ms_run d rfl rfl rfl ?_ h
    simp only [mj_stp, if_neg h1, hq, mj_jmp, ho]
theorem ms_tabOut {dflt lo hi a : Int} {offs : Array Int} {t : Nat} (d : mj_dec y pc = some (.tableswitch dflt lo hi offs)) (h1 : a < lo ∨ hi < a) (ho : mj_j pc dflt = some t) (h : mj_run y w f t ls st = X) : mj_run y w f pc ls (.inl a :: st) = X := by
  refine ms_run d rfl rfl rfl ?_ h
  simp only [mj_stp, if_pos h1, mj_jmp, ho]
theorem ms_look {dflt a : Int} {ps : Array (Int × Int)} {t : Nat} (d : mj_dec y pc = some (.lookupswitch dflt ps)) (hs : (ps.toList.zip (ps.toList.drop 1)).all (fun (a, next) => a.1 < next.1) = true) (ho : mj_j pc (Op.lookupswitch.offset ps.toList dflt a) = some t) (h : mj_run y w f t ls st = X) : mj_run y w f pc ls (.inl a :: st) = X := by
  refine ms_run d rfl rfl rfl ?_ h
  simp only [mj_stp, if_pos hs, mj_jmp, ho]
/-- the link of a call: which method, how many arguments -/
def mj_vk (y idx : Nat) : Option (Nat × Nat) := match mj_cl2 (mj_cn y) idx with
  | some (0, cy, _) => if mj_lev cy < mj_lev y then some (cy, mj_ar cy) else none
  | some (1, cy, _) => if mj_lev cy < mj_lev y then some (cy, mj_ar cy) else none
  | _ => none
def mj_sk (y idx : Nat) : Option (Nat × Nat) := match mj_cl2 (mj_cn y) idx with
  | some (2, cy, _) => if mj_lev cy < mj_lev y then some (cy, mj_ar cy) else none
  | some (3, cy, _) => if mj_lev cy < mj_lev y then some (cy, mj_ar cy) else none
  | _ => none
theorem ms_args_v {cy a : Nat} {as rest : List mj_V} (hn : mj_ar cy = as.length + 1) (hl : mj_low rest = true) (hc : as.all (fun v => mj_cat v == 1) = true) (hw : w.1 a = (mj_cn cy, 0)) : mj_args w (as.reverse ++ .inr (.inl a) :: rest) cy true = some (cy, .inr (.inl a) :: as, rest, 0) := by
  have h1 : (as.reverse ++ .inr (.inl a) :: rest).take (mj_ar cy) = as.reverse ++ [.inr (.inl a)] := by
    rw [hn, List.take_append, List.take_of_length_le (by rw [List.length_reverse]; omega)]
    simp
  have h2 : (as.reverse ++ .inr (.inl a) :: rest).drop (mj_ar cy) = rest := by
    rw [hn, List.drop_append]
    simp
  unfold mj_args
  rw [h1, h2]
  rw [if_pos]
  · simp [hw]
  · refine ⟨by rw [hn, List.length_append, List.length_reverse, List.length_cons]; omega, hl, ?_⟩
    rw [List.all_append, List.all_reverse, hc]
    rfl
theorem ms_args_s {cy : Nat} {as rest : List mj_V} (hn : mj_ar cy = as.length) (hl : mj_low rest = true) (hc : as.all (fun v => mj_cat v == 1) = true) : mj_args w (as.reverse ++ rest) cy false = some (cy, as, rest, 0) := by
  have h1 : (as.reverse ++ rest).take (mj_ar cy) = as.reverse := by
    rw [hn, List.take_append, List.take_of_length_le (by rw [List.length_reverse]; omega)]
    simp
  have h2 : (as.reverse ++ rest).drop (mj_ar cy) = rest := by
    rw [hn, List.drop_append]
    simp
  unfold mj_args
  rw [h1, h2]
  rw [if_pos]
  · simp
  · refine ⟨by rw [hn]; simp, hl, ?_⟩
    rw [List.all_reverse, hc]
theorem ms_then {cy : Nat} {as rest : List mj_V} {i : Instr} (d : mj_dec y pc = some i) (hk : mj_keepw y i = true) (he : mj_end y i w st = none) (hi : mj_imp cy = false) (hc : mj_callee y i w st = some (cy, as, rest, 0)) : mj_run y w f pc ls st = mj_then 0 (mj_call cy w f as) y pc ls rest :=
  mj_run_call (by unfold mj_nx; rw [d]; dsimp only; rw [if_pos (Or.inr hk), he, hc]; dsimp only; rw [if_pos (Or.inr hi)])
theorem ms_then_i {cy : Nat} {as rest : List mj_V} {K : mj_F → Int → Option mj_O} (hi : mj_imp cy = false) (hr : mj_rt cy = some .int ∨ mj_rt cy = some .boolean) (hp : pc + 3 = p') (h : ∀ f x, mj_run y w f p' ls (.inl x :: rest) = K f x) : mj_then 0 (mj_call cy w f as) y pc ls rest = mj_bi (mj_call cy w f as) K := by
  subst hp
  cases hc : mj_call cy w f as with
  | none => rfl
  | some r =>
    obtain ⟨w2, f2, v⟩ := r
    obtain ⟨h1, -, h3⟩ := mj_call_pure hc hi
    obtain ⟨x, hx⟩ := h3 hr
    have h1 : w2 = w := h1
    have hx : v = some (.inl x) := hx
    subst h1 hx
    exact h f2 x
theorem ms_then_u {cy : Nat} {as rest : List mj_V} {K : mj_F → Option mj_O} (hi : mj_imp cy = false) (hr : mj_rt cy = none) (hp : pc + 3 = p') (h : ∀ f, mj_run y w f p' ls rest = K f) : mj_then 0 (mj_call cy w f as) y pc ls rest = mj_bu (mj_call cy w f as) K := by
  subst hp
  cases hc : mj_call cy w f as with
  | none => rfl
  | some r =>
    obtain ⟨w2, f2, v⟩ := r
    obtain ⟨h1, h2, -⟩ := mj_call_pure hc hi
    have h1 : w2 = w := h1
    have hx : v = none := h2 hr
    subst h1 hx
    exact h f2
theorem ms_callee_v {idx cy a : Nat} {as rest : List mj_V} (hv : mj_vk y idx = some (cy, as.length + 1)) (hl : mj_low rest = true) (hc : as.all (fun v => mj_cat v == 1) = true) (hw : w.1 a = (mj_cn cy, 0)) : mj_callee y (.invokevirtual idx) w (as.reverse ++ .inr (.inl a) :: rest) = some (cy, .inr (.inl a) :: as, rest, 0) := by
  unfold mj_vk at hv
  simp only [mj_callee]
  split at hv
  · next c2 q hq =>
    split at hv
    · next hlev =>
      have h1 := Option.some.inj hv
      have h2 : c2 = cy := congrArg Prod.fst h1
      have h3 : mj_ar c2 = as.length + 1 := congrArg Prod.snd h1
      subst h2
      rw [hq]
      show mj_dn y c2 (mj_args w _ c2 true) = _
      unfold mj_dn
      rw [if_pos hlev]
      exact ms_args_v h3 hl hc hw
    · cases hv
  · next c2 q hq =>
    split at hv
    · next hlev =>
      have h1 := Option.some.inj hv
      have h2 : c2 = cy := congrArg Prod.fst h1
      have h3 : mj_ar c2 = as.length + 1 := congrArg Prod.snd h1
      subst h2
      rw [hq]
      show mj_dn y c2 (mj_args w _ c2 true) = _
      unfold mj_dn
      rw [if_pos hlev]
      exact ms_args_v h3 hl hc hw
    · cases hv
  · cases hv
theorem ms_callee_s {idx cy : Nat} {as rest : List mj_V} (hv : mj_sk y idx = some (cy, as.length)) (hl : mj_low rest = true) (hc : as.all (fun v => mj_cat v == 1) = true) : mj_callee y (.invokestatic idx) w (as.reverse ++ rest) = some (cy, as, rest, 0) := by
  unfold mj_sk at hv
  simp only [mj_callee]
  split at hv
  · next c2 q hq =>
    split at hv
    · next hlev =>
      have h1 := Option.some.inj hv
      have h2 : c2 = cy := congrArg Prod.fst h1
      have h3 : mj_ar c2 = as.length := congrArg Prod.snd h1
      subst h2
      rw [hq]
      show mj_dn y c2 (mj_args w _ c2 false) = _
      unfold mj_dn
      rw [if_pos hlev]
      exact ms_args_s h3 hl hc
    · cases hv
  · next c2 q hq =>
    split at hv
    · next hlev =>
      have h1 := Option.some.inj hv
      have h2 : c2 = cy := congrArg Prod.fst h1
      have h3 : mj_ar c2 = as.length := congrArg Prod.snd h1
      subst h2
      rw [hq]
      show mj_dn y c2 (mj_args w _ c2 false) = _
      unfold mj_dn
      rw [if_pos hlev]
      exact ms_args_s h3 hl hc
    · cases hv
  · cases hv
theorem ms_virt_i {idx cy a n : Nat} {as rest : List mj_V} {K : mj_F → Int → Option mj_O} (d : mj_dec y pc = some (.invokevirtual idx) ∧ mj_vk y idx = some (cy, n + 1) ∧ mj_imp cy = false ∧ (mj_rt cy = some .int ∨ mj_rt cy = some .boolean)) (hn : as.length = n) (hst : st = as.reverse ++ .inr (.inl a) :: rest) (hl : mj_low rest = true) (hc : as.all (fun v => mj_cat v == 1) = true) (hw : w.1 a = (mj_cn cy, 0)) (hp : pc + 3 = p') (h : ∀ f x, mj_run y w f p' ls (.inl x :: rest) = K f x) : mj_run y w f pc ls st = mj_bi (mj_call cy w f (.inr (.inl a) :: as)) K := by
  obtain ⟨d, hv, hi, hr⟩ := d
  subst hst
  subst hn
  exact (ms_then d rfl rfl hi (ms_callee_v hv hl hc hw)).trans (ms_then_i hi hr hp h)
theorem ms_virt_u {idx cy a n : Nat} {as rest : List mj_V} {K : mj_F → Option mj_O} (d : mj_dec y pc = some (.invokevirtual idx) ∧ mj_vk y idx = some (cy, n + 1) ∧ mj_imp cy = false ∧ mj_rt cy = none) (hn : as.length = n) (hst : st = as.reverse ++ .inr (.inl a) :: rest) (hl : mj_low rest = true) (hc : as.all (fun v => mj_cat v == 1) = true) (hw : w.1 a = (mj_cn cy, 0)) (hp : pc + 3 = p') (h : ∀ f, mj_run y w f p' ls rest = K f) : mj_run y w f pc ls st = mj_bu (mj_call cy w f (.inr (.inl a) :: as)) K := by
  obtain ⟨d, hv, hi, hr⟩ := d
  subst hst
  subst hn
  exact (ms_then d rfl rfl hi (ms_callee_v hv hl hc hw)).trans (ms_then_u hi hr hp h)
theorem ms_stat_i {idx cy n : Nat} {as rest : List mj_V} {K : mj_F → Int → Option mj_O} (d : mj_dec y pc = some (.invokestatic idx) ∧ mj_sk y idx = some (cy, n) ∧ mj_imp cy = false ∧ (mj_rt cy = some .int ∨ mj_rt cy = some .boolean)) (hn : as.length = n) (hst : st = as.reverse ++ rest) (hl : mj_low rest = true) (hc : as.all (fun v => mj_cat v == 1) = true) (hp : pc + 3 = p') (h : ∀ f x, mj_run y w f p' ls (.inl x :: rest) = K f x) : mj_run y w f pc ls st = mj_bi (mj_call cy w f as) K := by
  obtain ⟨d, hv, hi, hr⟩ := d
  subst hst
  subst hn
  exact (ms_then d rfl rfl hi (ms_callee_s hv hl hc)).trans (ms_then_i hi hr hp h)
theorem ms_stat_u {idx cy n : Nat} {as rest : List mj_V} {K : mj_F → Option mj_O} (d : mj_dec y pc = some (.invokestatic idx) ∧ mj_sk y idx = some (cy, n) ∧ mj_imp cy = false ∧ mj_rt cy = none) (hn : as.length = n) (hst : st = as.reverse ++ rest) (hl : mj_low rest = true) (hc : as.all (fun v => mj_cat v == 1) = true) (hp : pc + 3 = p') (h : ∀ f, mj_run y w f p' ls rest = K f) : mj_run y w f pc ls st = mj_bu (mj_call cy w f as) K := by
  obtain ⟨d, hv, hi, hr⟩ := d
  subst hst
  subst hn
  exact (ms_then d rfl rfl hi (ms_callee_s hv hl hc)).trans (ms_then_u hi hr hp h)
end MS
