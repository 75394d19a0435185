section MJ
variable {p : Program} {l : Launch} {e : Env} {R : Room} {s : State} {m : MethodId} {args : Array Value} {below : List Frame} {meth : Method} {c : Code} {Q : State → Prop} {G : mj_G} {b sz : Nat} {H : Heap} {n0 s0 y : Nat} {w w' : mj_W} {f f' : mj_F} {ls ls' st st' : List mj_V} {locs : List Loc} {lsA : Array Slot} {pc pc' : Nat}
/-- behind a cell's making: our invariant again -/
theorem mj_I_push {H1 : Heap} {L : List Nat} {t : Nat × Nat} {n : Nat} {ev : va_E} {r : List mj_V} (I : mj_I s G b sz n0 s0 y w f ls st H locs lsA) (hP : va_P G.1 mj_cl (va_pl L (mj_Cl G.2 b sz w f)) H) (hD : va_D (mj_A sz) (va_pl L (mj_Cl G.2 b sz w f))) (hL : ∀ a, mj_lv w a → sz + a - 2 ∈ L) (hz : H.size + 2 = sz + w.2.2.1) (hr : ∀ a j, mj_rg (f a j)) (ht : t.1 ≠ 104)
    (he : mj_E G.2 b sz (mj_new w t n) (mj_z f w.2.2.1) w.2.2.1 = ev) (ho : ∀ v ∈ r, mj_okv v) (h1 : H1.size = H.size + 1) (h2 : ∀ q : Nat, q < H.size → H1[q]? = H[q]?) (h3 : va_at G.1 mj_cl (H.size, ev) H1) : mj_I s G b sz n0 s0 y (mj_new w t n) (mj_z f w.2.2.1) ls r H1 locs lsA ∧ H.size = mj_ad b sz w.2.2.1 := by
  obtain ⟨⟨-, -, -, -, -, hwf, -⟩, hS, hls, -, ⟨hn, hn2⟩, hb, hX, hn0, hs0⟩ := I
  have hkept : ∀ (k : Nat) (x : Nat × va_E), (va_pl L (mj_Cl G.2 b sz w f))[k]? = some x → H1[x.1]? = H[x.1]? := fun k x hx => h2 x.1 ((hP k x hx).lt)
  have hP1 : va_P G.1 mj_cl (va_pl L (mj_Cl G.2 b sz w f) ++ [(H.size, ev)]) H1 := (hP.kept hkept).app (fun k x hx => by
    have hz : k < 1 := (List.getElem?_eq_some_iff.mp hx).1
    rw [show k = 0 by omega] at hx
    cases hx
    exact h3)
  have hD1 : va_D (mj_A sz) (va_pl L (mj_Cl G.2 b sz w f) ++ [(H.size, ev)]) := hD.push hP rfl (by show sz ≤ H.size; have := hwf.1; omega)
  obtain ⟨g1, g2⟩ := mj_P.push (f' := f) hP hD hL hz hwf hr ht rfl he h1 hP1 hD1
  have h22 := hwf.1
  have hne : (1 : Nat) ≠ w.2.2.1 := by omega
  refine ⟨⟨g1, ⟨by have := hS.1; omega, fun q hq hn => ?_, hS.2.2⟩, hls, ho, ⟨hn, hn2⟩, hb, mj_X_keep hX ?_ ?_, by show n0 ≤ w.2.2.1 + 1; omega, by show s0 ≤ w.2.2.2 + n; omega⟩, g2⟩
  · rw [h2 q (Nat.lt_of_lt_of_le hq hS.1)]
    exact hS.2.1 q hq hn
  · simp [mj_new, hne]
  · funext j
    simp [mj_z, hne]
theorem mj_s_newa {k : Nat} {ty : ArrayType} {idx : Nat} (hk : (ty, k, idx) = (.int, 100, 0) ∨ (ty, k, idx) = (.byte, 101, 1) ∨ (ty, k, idx) = (.long, 103, 3)) (C : mj_C p s m args meth c G y) (I : mj_I s G b sz n0 s0 y w f ls st H locs lsA) (hd : mj_dec y pc = some (.newarray ty)) (hs : mj_newa w f (pc + 2) ls st k = some (w', f', pc', ls', st')) (hRc : w'.2.2.1 - n0 ≤ R.cells) (hRs : w'.2.2.2 - s0 ≤ R.slots) (kk : mj_K p l e R s m args below meth c Q G b sz n0 s0 y w' f' pc' ls' st') : mj_Wg p l e R s m args below meth c Q b sz n0 s0 w H locs pc lsA st := by
  obtain ⟨hx, hb, hml, hown, hts, hini, hok⟩ := C
  have hdg : decode (mj_code y) pc = .ok (.newarray ty, 2) := mj_dec_ok hd rfl (by decide)
  obtain ⟨⟨L, hP, hD, hL, hz, hwf, hr⟩, hS, hls, ho, hrest⟩ := id I
  have hn0 := hrest.2.2.2.1
  have hs0 := hrest.2.2.2.2
  unfold mj_newa at hs
  split at hs
  · next n r =>
    split at hs
    · next hn =>
      cases hs
      have o1 := List.forall_mem_cons.mp ho
      have hnn : ¬ Int32.ofInt n < 0 := fun q => by have := (mj_lt o1.1 mj_rg0).mp q; omega
      have hcl := mj_clamp o1.1
      have hRc' : w.2.2.1 - n0 + 1 ≤ R.cells := by have : (mj_new w (k, n.toNat) n.toNat).2.2.1 = w.2.2.1 + 1 := rfl; omega
      have hRs' : w.2.2.2 - s0 + n.toNat ≤ R.slots := by have : (mj_new w (k, n.toNat) n.toNat).2.2.2 = w.2.2.2 + n.toNat := rfl; omega
      have e1 : (mj_new w (k, n.toNat) n.toNat).2.2.1 - n0 = w.2.2.1 - n0 + 1 := by show w.2.2.1 + 1 - n0 = _; omega
      have e2 : (mj_new w (k, n.toNat) n.toNat).2.2.2 - s0 = w.2.2.2 - s0 + n.toNat := by show w.2.2.2 + n.toNat - s0 = _; omega
      have hself : (mj_new w (k, n.toNat) n.toNat).1 w.2.2.1 = (k, n.toNat) := by simp [mj_new]
      have hfz : mj_z f w.2.2.1 w.2.2.1 = fun _ => 0 := by funext j; simp [mj_z]
      have hK : ∀ (i : Nat) (q : ClassId × FieldType), (mj_tys G.2)[i]? = some q → ArrOfT s q.1 q.2 ∧ va_RA s q.1 q.2 := hok.1.2
      rcases hk with hk | hk | hk <;> cases hk
      · refine va_newaK (atype := .int) (N := n.toNat) hx hb (hts _ mj_words.2.2.2.2.1) rfl hdg rfl hnn hcl (by show n.toNat * 4 ≤ 536870912; omega) hRc' hRs' rfl (fun H1 cA f1 f2 f3 f4 f5 => ?_)
        have hcA : cA = G.2 0 := Option.some.inj (f5.symm.trans (hK 0 (G.2 0, .int) rfl).2)
        subst hcA
        obtain ⟨I1, I2⟩ := mj_I_push (t := (100, n.toNat)) (n := n.toNat) (ev := .inl (G.2 0, n.toNat, .inl (fun _ => 0))) (r := .inr (.inl w.2.2.1) :: r) I hP hD hL hz hr (by show (100 : Nat) ≠ 104; decide) (by rw [mj_E_100 (by rw [hself]), hself, hfz]; rfl) (List.forall_mem_cons.mpr ⟨trivial, o1.2⟩) f2 f3 f1
        have h := kk _ _ _ I1
        unfold mj_Wg at h
        rw [e1, e2] at h
        rw [I2]
        exact h
      · refine va_newaK (atype := .byte) (N := n.toNat) hx hb (hts _ mj_words.2.2.2.2.2.1) rfl hdg rfl hnn hcl (by show n.toNat * 1 ≤ 536870912; omega) hRc' hRs' rfl (fun H1 cA f1 f2 f3 f4 f5 => ?_)
        have hcA : cA = G.2 1 := Option.some.inj (f5.symm.trans (hK 1 (G.2 1, .byte) rfl).2)
        subst hcA
        obtain ⟨I1, I2⟩ := mj_I_push (t := (101, n.toNat)) (n := n.toNat) (ev := .inl (G.2 1, n.toNat, .inl (fun _ => 0))) (r := .inr (.inl w.2.2.1) :: r) I hP hD hL hz hr (by show (101 : Nat) ≠ 104; decide) (by rw [mj_E_101 (by rw [hself]), hself, hfz]; rfl) (List.forall_mem_cons.mpr ⟨trivial, o1.2⟩) f2 f3 f1
        have h := kk _ _ _ I1
        unfold mj_Wg at h
        rw [e1, e2] at h
        rw [I2]
        exact h
      · refine va_newaK (atype := .long) (N := n.toNat) hx hb (hts _ mj_words.2.2.2.2.2.2.1) rfl hdg rfl hnn hcl (by show n.toNat * 8 ≤ 536870912; omega) hRc' hRs' rfl (fun H1 cA f1 f2 f3 f4 f5 => ?_)
        have hcA : cA = G.2 3 := Option.some.inj (f5.symm.trans (hK 3 (G.2 3, .long) rfl).2)
        subst hcA
        obtain ⟨I1, I2⟩ := mj_I_push (t := (103, n.toNat)) (n := n.toNat) (ev := .inl (G.2 3, n.toNat, .inr (.inl (fun _ => 0)))) (r := .inr (.inl w.2.2.1) :: r) I hP hD hL hz hr (by show (103 : Nat) ≠ 104; decide) (by rw [mj_E_103 (by rw [hself]), hself, hfz]; rfl) (List.forall_mem_cons.mpr ⟨trivial, o1.2⟩) f2 f3 f1
        have h := kk _ _ _ I1
        unfold mj_Wg at h
        rw [e1, e2] at h
        rw [I2]
        exact h
    · cases hs
  · cases hs
theorem mj_s_anew {idx : Nat} (C : mj_C p s m args meth c G y) (I : mj_I s G b sz n0 s0 y w f ls st H locs lsA) (hd : mj_dec y pc = some (.anewarray idx)) (hs : mj_anew y w f pc ls st idx = some (w', f', pc', ls', st')) (hRc : w'.2.2.1 - n0 ≤ R.cells) (hRs : w'.2.2.2 - s0 ≤ R.slots) (kk : mj_K p l e R s m args below meth c Q G b sz n0 s0 y w' f' pc' ls' st') : mj_Wg p l e R s m args below meth c Q b sz n0 s0 w H locs pc lsA st := by
  obtain ⟨hx, hb, hml, hown, hts, hini, hok⟩ := C
  have hdg : decode (mj_code y) pc = .ok (.anewarray idx, 3) := mj_dec_ok hd rfl (by decide)
  obtain ⟨⟨L, hP, hD, hL, hz, hwf, hr⟩, hS, hls, ho, hrest⟩ := id I
  have hn0 := hrest.2.2.2.1
  have hs0 := hrest.2.2.2.2
  unfold mj_anew at hs
  split at hs
  · next q hq =>
    have hlk : lw_tbl[q]? = some (.classLink (mj_own y) idx mj_zn) := by
      have h9 := mj_cl2_ok hq
      have h7 : (mj_cl[7]?).map (fun r => r.1) = some mj_zn := by decide +kernel
      unfold mj_cok at h9
      dsimp only at h9
      cases hc : mj_cl[7]? with
      | none => rw [hc] at h9; cases h9
      | some rr =>
        obtain ⟨CC, T, N⟩ := rr
        rw [hc] at h9 h7
        have hC : CC = mj_zn := Option.some.inj h7
        subst hC
        simp only [Bool.and_eq_true, decide_eq_true_eq] at h9
        exact h9.1.1
    unfold mj_newa at hs
    split at hs
    · next n r =>
      split at hs
      · next hn =>
        cases hs
        have o1 := List.forall_mem_cons.mp ho
        have hnn : ¬ Int32.ofInt n < 0 := fun q => by have := (mj_lt o1.1 mj_rg0).mp q; omega
        have hcl := mj_clamp o1.1
        have e1 : (mj_new w (102, n.toNat) n.toNat).2.2.1 - n0 = w.2.2.1 - n0 + 1 := by show w.2.2.1 + 1 - n0 = _; omega
        have e2 : (mj_new w (102, n.toNat) n.toNat).2.2.2 - s0 = w.2.2.2 - s0 + n.toNat := by show w.2.2.2 + n.toNat - s0 = _; omega
        have hself : (mj_new w (102, n.toNat) n.toNat).1 w.2.2.1 = (102, n.toNat) := by simp [mj_new]
        have hgz : (mj_new w (102, n.toNat) n.toNat).2.1 w.2.2.1 = fun _ => 0 := by funext j; simp [mj_new]
        have hK : ∀ (i : Nat) (q : ClassId × FieldType), (mj_tys G.2)[i]? = some q → ArrOfT s q.1 q.2 ∧ va_RA s q.1 q.2 := hok.1.2
        refine W.anew (C := mj_zn) hx hb hown (hts _ (mj_t2 hlk rfl)) (va_AO.use hok.2.1) rfl hdg rfl hnn (by rw [hcl]; omega) (by omega) (by rw [hcl]; omega) (fun cA kA comp f1 f2 f3 f4 => ?_)
        have hcA : cA = G.2 2 := by
          obtain ⟨_, _, _, _, _, g⟩ := (hK 2 (G.2 2, .object mj_zn) rfl).2
          exact Option.some.inj (f1.symm.trans g)
        subst hcA
        rw [hcl]
        generalize hH1 : H.push ({ cls := G.2 2, slots := Array.replicate n.toNat .null, vm := .none } : Cell) = H1
        have z1 : H1.size = H.size + 1 := by rw [← hH1, Array.size_push]
        have g1 : H1[H.size]? = some (arrV (G.2 2) n.toNat (fun _ => .null)) := by rw [← hH1, Array.getElem?_push_size, ← arrV_new]
        have o2 : ∀ q : Nat, q < H.size → H1[q]? = H[q]? := fun q hq => by rw [← hH1, Array.getElem?_push, if_neg (Nat.ne_of_lt hq)]
        obtain ⟨I1, I2⟩ := mj_I_push (t := (102, n.toNat)) (n := n.toNat) (ev := .inl (G.2 2, n.toNat, .inr (.inr (.inr (.inr (fun _ => none)))))) (r := .inr (.inl w.2.2.1) :: r) I hP hD hL hz hr (by show (102 : Nat) ≠ 104; decide) (by rw [mj_E_102 (by rw [hself]), hself, hgz]; rfl) (List.forall_mem_cons.mpr ⟨trivial, o1.2⟩) z1 o2 (by show H1[H.size]? = some (vp_cell _ _); rw [g1]; rfl)
        have h := kk _ _ _ I1
        unfold mj_Wg at h
        rw [e1, e2] at h
        rw [I2]
        exact h
      · cases hs
    · cases hs
  · cases hs
theorem mj_s_newo {idx : Nat} (C : mj_C p s m args meth c G y) (I : mj_I s G b sz n0 s0 y w f ls st H locs lsA) (hd : mj_dec y pc = some (.new idx)) (hs : mj_newo y w f pc ls st idx = some (w', f', pc', ls', st')) (hRc : w'.2.2.1 - n0 ≤ R.cells) (hRs : w'.2.2.2 - s0 ≤ R.slots) (kk : mj_K p l e R s m args below meth c Q G b sz n0 s0 y w' f' pc' ls' st') : mj_Wg p l e R s m args below meth c Q b sz n0 s0 w H locs pc lsA st := by
  obtain ⟨hx, hb, hml, hown, hts, hini, hok⟩ := C
  have hdg : decode (mj_code y) pc = .ok (.new idx, 3) := mj_dec_ok hd rfl (by decide)
  obtain ⟨⟨L, hP, hD, hL, hz, hwf, hr⟩, hS, hls, ho, hrest⟩ := id I
  have hn0 := hrest.2.2.2.1
  have hs0 := hrest.2.2.2.2
  unfold mj_newo at hs
  split at hs
  · next ci q hq =>
    split at hs
    · next hci =>
      cases hs
      have hlk := mj_cl2_ok hq
      unfold mj_cok at hlk
      dsimp only at hlk
      cases hc : mj_cl[ci]? with
      | none => rw [hc] at hlk; cases hlk
      | some rr =>
        obtain ⟨CC, T, N⟩ := rr
        rw [hc] at hlk
        simp only [Bool.and_eq_true, decide_eq_true_eq] at hlk
        obtain ⟨hN, -⟩ := mj_cl_nf hc
        have hKn := hok.1.1 ci _ hc
        have e1 : (mj_new w (ci, 0) (mj_nf ci)).2.2.1 - n0 = w.2.2.1 - n0 + 1 := by show w.2.2.1 + 1 - n0 = _; omega
        have e2 : (mj_new w (ci, 0) (mj_nf ci)).2.2.2 - s0 = w.2.2.2 - s0 + N := by show w.2.2.2 + mj_nf ci - s0 = _; omega
        refine W.newcK (n := N) hx hb hown (hts _ (mj_t2 hlk.1.1 rfl)) (hts _ (List.mem_filter.mpr ⟨hlk.1.2, rfl⟩)) (hts _ (List.mem_filter.mpr ⟨hlk.2, rfl⟩)) rfl hdg (by omega) (by omega) hKn.2.1 rfl (fun H1 kC f1 f2 f3 f4 => ?_)
        have hself : (mj_new w (ci, 0) (mj_nf ci)).1 w.2.2.1 = (ci, 0) := by simp [mj_new]
        obtain ⟨I1, I2⟩ := mj_I_push (t := (ci, 0)) (n := mj_nf ci) (ev := mj_E G.2 b sz (mj_new w (ci, 0) (mj_nf ci)) (mj_z f w.2.2.1) w.2.2.1) (r := .inr (.inl w.2.2.1) :: st) I hP hD hL hz hr (by show ci ≠ 104; omega) rfl (List.forall_mem_cons.mpr ⟨trivial, ho⟩) f3 f4 (by
          rw [mj_E_obj hself hci]
          refine ⟨_, hc, (u_born (mj_ty ci) hts (mj_hin hc) hKn f1 f2 (mj_cl_ty hc)).to (fun j hj => ?_)⟩
          have hj2 : j < mj_nf ci := by rw [hN]; exact hj
          unfold vp_V
          rw [List.getD_eq_getElem?_getD, mj_fs_get hj2]
          rw [mj_default (mj_tk_of hci hj2) (mj_kind_le hci hj2)]
          show _ = mj_fv b sz _ _ ci w.2.2.1 j
          unfold mj_fv
          have h1 : (mj_new w (ci, 0) (mj_nf ci)).2.1 w.2.2.1 j = 0 := by simp [mj_new]
          have h2 : mj_z f w.2.2.1 w.2.2.1 j = 0 := by simp [mj_z]
          rw [h1, h2]
          rfl)
        have h := kk _ _ _ I1
        unfold mj_Wg at h
        rw [e1, e2] at h
        rw [I2]
        exact h
    · cases hs
  · cases hs
theorem mj_val_cat (v : mj_V) : (mj_val b sz v).category = mj_cat v := by
  rcases v with v | v | v | v <;> rfl
theorem mj_low_ok {r : List mj_V} (h : mj_low r = true) : ((r.map (mj_val b sz)).map fun v => v.category).sum ≤ 8 := by
  have h1 := of_decide_eq_true h
  rw [List.map_map]
  have : ((fun v : Value => v.category) ∘ mj_val b sz) = mj_cat := by funext v; exact mj_val_cat v
  rw [this]
  exact h1
theorem mj_s_spec {idx : Nat} (C : mj_C p s m args meth c G y) (I : mj_I s G b sz n0 s0 y w f ls st H locs lsA) (hd : mj_dec y pc = some (.invokespecial idx)) (hs : mj_spec y w f pc ls st idx = some (w', f', pc', ls', st')) (hRf : 1 ≤ R.frames) (hRl : 100 ≤ R.locals) (kk : mj_K p l e R s m args below meth c Q G b sz n0 s0 y w' f' pc' ls' st') : mj_Wg p l e R s m args below meth c Q b sz n0 s0 w H locs pc lsA st := by
  obtain ⟨hx, hb, hml, hown, hts, hini, hok⟩ := C
  have hdg : decode (mj_code y) pc = .ok (.invokespecial idx, 3) := mj_dec_ok hd rfl (by decide)
  unfold mj_spec at hs
  split at hs
  · next x q a r hq =>
    split at hs
    · next hlow =>
      cases hs
      have hlk := mj_cl2_ok hq
      unfold mj_cok at hlk
      have hlk := of_decide_eq_true hlk
      have o1 := List.forall_mem_cons.mp I.2.2.2.1
      have hl := mj_low_ok (b := b) (sz := sz) hlow
      obtain ⟨lv, hlv, -⟩ := I.2.2.1.2.2
      exact W.objInit hx hb hown (hts _ (mj_t2 hlk rfl)) (hts _ mj_words.1) (hts _ mj_cw_oi) rfl (by rw [hml]; exact hlv.1) rfl hdg hRf (by show 2 * 0 + _ + 12 ≤ _; omega) (kk _ _ _ (mj_I_st I o1.2))
    · cases hs
  · cases hs
theorem mj_cpy_self {a sp d dp n : Nat} : (fun j => Int32.ofInt (mj_cpy f a sp d dp n d j)) = va_cpy (fun j => Int32.ofInt (f a j)) (fun j => Int32.ofInt (f d j)) sp dp n := by
  funext j
  unfold mj_cpy va_cpy
  by_cases h : dp ≤ j ∧ j < dp + n
  · rw [if_pos h, if_pos ⟨rfl, h⟩]
  · rw [if_neg h, if_neg (fun q => h q.2)]
theorem mj_s_copy {idx : Nat} (C : mj_C p s m args meth c G y) (I : mj_I s G b sz n0 s0 y w f ls st H locs lsA) (hd : mj_dec y pc = some (.invokestatic idx)) (hs : mj_copy y w f pc ls st idx = some (w', f', pc', ls', st')) (hRc : w'.2.2.1 - n0 ≤ R.cells) (hRs : w'.2.2.2 - s0 ≤ R.slots) (hRf : 1 ≤ R.frames) (hRl : 100 ≤ R.locals) (kk : mj_K p l e R s m args below meth c Q G b sz n0 s0 y w' f' pc' ls' st') : mj_Wg p l e R s m args below meth c Q b sz n0 s0 w H locs pc lsA st := by
  obtain ⟨hx, hb, hml, hown, hts, hini, hok⟩ := C
  have hdg : decode (mj_code y) pc = .ok (.invokestatic idx, 3) := mj_dec_ok hd rfl (by decide)
  obtain ⟨⟨L, hP, hD, hL, hz, hwf, hr⟩, hS, hls, ho, hrest⟩ := id I
  obtain ⟨lv, hlv, -⟩ := hls.2.2
  have hmls : c.maxLocals = lsA.size := by rw [hml]; exact hlv.1.symm
  unfold mj_copy at hs
  split at hs
  · next x q n dp d sp a r hq =>
    split at hs
    · next hw =>
      cases hs
      have hlk := mj_cl2_ok hq
      unfold mj_cok at hlk
      have hlk := of_decide_eq_true hlk
      obtain ⟨ha, hd', h1, h2, h3, h4, h5, hlow⟩ := hw
      have o1 := List.forall_mem_cons.mp ho
      have o2 := List.forall_mem_cons.mp o1.2
      have o3 := List.forall_mem_cons.mp o2.2
      have o4 := List.forall_mem_cons.mp o3.2
      have o5 := List.forall_mem_cons.mp o4.2
      have hl := mj_low_ok (b := b) (sz := sz) hlow
      have hlva : mj_lv w a := by unfold mj_lv; omega
      have hlvd : mj_lv w d := by unfold mj_lv; omega
      obtain ⟨-, -, -, -, qa, hqa⟩ := mj_P_at (G := G) (b := b) (f := f) hL hwf hlva
      obtain ⟨-, -, -, -, qd, hqd⟩ := mj_P_at (G := G) (b := b) (f := f) hL hwf hlvd
      have hq1 := hqd
      rw [mj_E_100 ha] at hqa
      rw [mj_E_100 hd'] at hq1
      have hneg : ∀ {x : Int}, mj_rg x → 0 ≤ x → ¬ Int32.ofInt x < 0 := fun hr h q => by have := (mj_lt hr mj_rg0).mp q; omega
      refine va_copyi hx hb hmls hown (hts _ (mj_t2 hlk rfl)) (hts _ mj_words.2.1) (hts _ mj_words.2.2.1) (hts _ mj_words.2.2.2.1) hok.1 hP hD (mj_S_here hS) qa qd 0 0 hqa hq1 rfl rfl rfl (hneg o4.1 h2) (hneg o2.1 h3) (hneg o1.1 h1) (by rw [mj_clamp o4.1, mj_clamp o1.1]; omega) (by rw [mj_clamp o2.1, mj_clamp o1.1]; omega) (fun i _ => rfl) hRf (by
        have : nativeFrameWords "java/lang/System" "arraycopy" 5 + 11 ≤ 80 := by decide +kernel
        omega) hdg (fun H1 locs1 hP1 hD1 hS1 => mj_Wsize fun hup => ?_)
      refine kk _ _ _ (mj_I_write I hD hL hlvd hz hqd ?_ rfl (fun _ _ => rfl) (fun x hx => by funext j; simp [mj_cpy, hx]) rfl (fun x j => by unfold mj_cpy; split <;> exact hr _ _) o5.2 hup hP1 hD1 hS1)
      rw [mj_E_100 hd', mj_cpy_self, mj_clamp o4.1, mj_clamp o2.1, mj_clamp o1.1]
    · cases hs
  · next x q z a r hq =>
    split at hs
    · next hlow =>
      cases hs
      have hlk := mj_cl2_ok hq
      unfold mj_cok at hlk
      have hlk := of_decide_eq_true hlk
      have o1 := List.forall_mem_cons.mp ho
      have o2 := List.forall_mem_cons.mp o1.2
      have hl := mj_low_ok (b := b) (sz := sz) hlow
      have h := kk _ _ _ (mj_I_st I (List.forall_mem_cons.mpr ⟨(by show mj_rg _; split; exact o1.1; exact o2.1), o2.2⟩))
      refine va_mmax hx hb hmls hown (hts _ (mj_t2 hlk rfl)) (hts _ mj_words.2.2.2.2.2.2.2.1) (hts _ mj_words.2.2.2.2.2.2.2.2.2.2) (hts _ mj_cw_max) hRf (by omega) hRc hRs hdg ?_
      have he : (if Int32.ofInt a < Int32.ofInt z then Int32.ofInt z else Int32.ofInt a) = Int32.ofInt (if a < z then z else a) := by
        by_cases hc : a < z
        · rw [if_pos hc, if_pos ((mj_lt o2.1 o1.1).mpr hc)]
        · rw [if_neg hc, if_neg (fun q => hc ((mj_lt o2.1 o1.1).mp q))]
      rw [he]
      exact h
    · cases hs
  · next x q z a r hq =>
    split at hs
    · next hlow =>
      cases hs
      have hlk := mj_cl2_ok hq
      unfold mj_cok at hlk
      have hlk := of_decide_eq_true hlk
      have o1 := List.forall_mem_cons.mp ho
      have o2 := List.forall_mem_cons.mp o1.2
      have hl := mj_low_ok (b := b) (sz := sz) hlow
      have h := kk _ _ _ (mj_I_st I (List.forall_mem_cons.mpr ⟨(by show mj_rg _; split; exact o1.1; exact o2.1), o2.2⟩))
      refine va_mmin hx hb hmls hown (hts _ (mj_t2 hlk rfl)) (hts _ mj_words.2.2.2.2.2.2.2.2.1) (hts _ mj_words.2.2.2.2.2.2.2.2.2.2) (hts _ mj_cw_min) hRf (by omega) hRc hRs hdg ?_
      have he : (if Int32.ofInt z < Int32.ofInt a then Int32.ofInt z else Int32.ofInt a) = Int32.ofInt (if z < a then z else a) := by
        by_cases hc : z < a
        · rw [if_pos hc, if_pos ((mj_lt o1.1 o2.1).mpr hc)]
        · rw [if_neg hc, if_neg (fun q => hc ((mj_lt o1.1 o2.1).mp q))]
      rw [he]
      exact h
    · cases hs
  · next x q a r hq =>
    split at hs
    · next hlow =>
      cases hs
      have hlk := mj_cl2_ok hq
      unfold mj_cok at hlk
      have hlk := of_decide_eq_true hlk
      have o1 := List.forall_mem_cons.mp ho
      have hl := mj_low_ok (b := b) (sz := sz) hlow
      have h := kk _ _ _ (mj_I_st I (List.forall_mem_cons.mpr ⟨(by show mj_rg _; split; exact o1.1; exact mj_w_rg _), o1.2⟩))
      refine va_mabs hx hb hmls hown (hts _ (mj_t2 hlk rfl)) (hts _ mj_words.2.2.2.2.2.2.2.2.2.1) (hts _ mj_words.2.2.2.2.2.2.2.2.2.2) (hts _ mj_cw_abs) hRf (by omega) hRc hRs hdg ?_
      have he : (if 0 ≤ Int32.ofInt a then Int32.ofInt a else 0 - Int32.ofInt a) = Int32.ofInt (if 0 ≤ a then a else mj_w (0 - a)) := by
        have hle : (0 ≤ Int32.ofInt a) ↔ 0 ≤ a := mj_le mj_rg0 o1.1
        by_cases hc : 0 ≤ a
        · rw [if_pos hc, if_pos (hle.mpr hc)]
        · rw [if_neg hc, if_neg (fun q => hc (hle.mp q)), mj_ofw, Int32.ofInt_sub]
          rfl
      rw [he]
      exact h
    · cases hs
  · cases hs
/-- every step of ours that is no call and no end -/
theorem mj_step {i : Instr} (C : mj_C p s m args meth c G y) (I : mj_I s G b sz n0 s0 y w f ls st H locs lsA) (hd : mj_dec y pc = some i) (hs : mj_stp y i w f pc ls st = some (w', f', pc', ls', st')) (hRc : w'.2.2.1 - n0 ≤ R.cells) (hRs : w'.2.2.2 - s0 ≤ R.slots) (hRf : 1 ≤ R.frames) (hRl : 100 ≤ R.locals) (kk : mj_K p l e R s m args below meth c Q G b sz n0 s0 y w' f' pc' ls' st') : mj_Wg p l e R s m args below meth c Q b sz n0 s0 w H locs pc lsA st := by
  by_cases hpl : mj_plain i = true
  · exact mj_step1 hpl C I hd hs kk
  · cases i with
    | getfield idx => exact mj_s_getf C I hd hs kk
    | putfield idx => exact mj_s_putf C I hd hs kk
    | iaload => exact mj_s_iald C I hd hs kk
    | baload => exact mj_s_bald C I hd hs kk
    | laload => exact mj_s_lald C I hd hs kk
    | aaload => exact mj_s_aald C I hd hs kk
    | iastore => exact mj_s_iast C I hd hs kk
    | bastore => exact mj_s_bast C I hd hs kk
    | aastore => exact mj_s_aast C I hd hs kk
    | arraylength => exact mj_s_alen C I hd hs kk
    | newarray ty =>
      cases ty with
      | int => exact mj_s_newa (Or.inl rfl) C I hd hs hRc hRs kk
      | byte => exact mj_s_newa (Or.inr (Or.inl rfl)) C I hd hs hRc hRs kk
      | long => exact mj_s_newa (Or.inr (Or.inr rfl)) C I hd hs hRc hRs kk
      | _ => cases hs
    | new idx => exact mj_s_newo C I hd hs hRc hRs kk
    | anewarray idx => exact mj_s_anew C I hd hs hRc hRs kk
    | invokespecial idx => exact mj_s_spec C I hd hs hRf hRl kk
    | invokestatic idx => exact mj_s_copy C I hd hs hRc hRs hRf hRl kk
    | _ => first | (exact absurd rfl hpl) | cases hs
end MJ
