section MJ
variable {p : Program} {l : Launch} {e : Env} {R : Room} {s : State} {m : MethodId} {args : Array Value} {below : List Frame} {meth : Method} {c : Code} {Q : State → Prop} {G : mj_G} {b sz : Nat} {H : Heap} {n0 s0 y : Nat} {w w' : mj_W} {f f' : mj_F} {ls ls' st st' : List mj_V} {locs : List Loc} {lsA : Array Slot} {pc pc' : Nat}
theorem mj_E_obj {c : Nat → ClassId} {a ci : Nat} (h : w.1 a = (ci, 0)) (hc : ci < 10) : mj_E c b sz w f a = .inr (ci, (List.range (mj_nf ci)).map (mj_fv b sz w f ci a)) := by
  unfold mj_E
  rw [h]
  rw [if_neg (by omega), if_neg (by omega), if_neg (by omega), if_neg (by omega)]
theorem mj_E_100 {c : Nat → ClassId} {a : Nat} (h : (w.1 a).1 = 100) : mj_E c b sz w f a = .inl (c 0, (w.1 a).2, .inl (fun j => Int32.ofInt (f a j))) := by
  unfold mj_E
  rw [if_pos h]
theorem mj_E_101 {c : Nat → ClassId} {a : Nat} (h : (w.1 a).1 = 101) : mj_E c b sz w f a = .inl (c 1, (w.1 a).2, .inl (fun j => Int32.ofInt (f a j))) := by
  unfold mj_E
  rw [if_neg (by omega), if_pos h]
theorem mj_E_102 {c : Nat → ClassId} {a : Nat} (h : (w.1 a).1 = 102) : mj_E c b sz w f a = .inl (c 2, (w.1 a).2, .inr (.inr (.inr (.inr (fun j => if w.2.1 a j = 0 then none else some (mj_ad b sz (w.2.1 a j))))))) := by
  unfold mj_E
  rw [if_neg (by omega), if_neg (by omega), if_pos h]
theorem mj_E_103 {c : Nat → ClassId} {a : Nat} (h : (w.1 a).1 = 103) : mj_E c b sz w f a = .inl (c 3, (w.1 a).2, .inr (.inl (fun j => Int64.ofInt (f a j)))) := by
  unfold mj_E
  rw [if_neg (by omega), if_neg (by omega), if_neg (by omega), if_pos h]
theorem mj_u_self {f : mj_F} {a i : Nat} {v : Int} : mj_u f a i v a = fun j => if j = i then v else f a j := by
  funext j
  simp [mj_u]
theorem mj_u_ne {f : mj_F} {a i x : Nat} {v : Int} (h : x ≠ a) : mj_u f a i v x = f x := by
  funext j
  simp [mj_u, h]
theorem mj_u_rg {f : mj_F} {a i : Nat} {v : Int} (hr : ∀ a j, mj_rg (f a j)) (hv : mj_rg v) : ∀ x j, mj_rg (mj_u f a i v x j) := by
  intro x j
  unfold mj_u
  split
  · exact hv
  · exact hr x j
theorem mj_lv_of {a ci : Nat} (h : w.1 a = (ci, 0)) (hc : ci < 10) : mj_lv w a := by
  unfold mj_lv
  rw [h]
  exact Or.inl hc
/-- the script stays as it is -/
theorem mj_X_keep (h : (w.1 1).1 = 104 → va_X b (w.1 1).2 (fun j => Int32.ofInt (f 1 j)) s s.heap) (h1 : w'.1 1 = w.1 1) (h2 : f' 1 = f 1) : (w'.1 1).1 = 104 → va_X b (w'.1 1).2 (fun j => Int32.ofInt (f' 1 j)) s s.heap := by
  rw [h1, h2]
  exact h
theorem mj_fs_get {ci a k : Nat} (hk : k < mj_nf ci) : ((List.range (mj_nf ci)).map (mj_fv b sz w f ci a))[k]? = some (mj_fv b sz w f ci a k) := by
  rw [List.getElem?_map, List.getElem?_range hk]
  rfl
theorem mj_fs_set {ci a k : Nat} {v : Value} (h : ∀ j, j < mj_nf ci → mj_fv b sz w' f' ci a j = if j = k then v else mj_fv b sz w f ci a j) : ((List.range (mj_nf ci)).map (mj_fv b sz w f ci a)).set k v = (List.range (mj_nf ci)).map (mj_fv b sz w' f' ci a) := by
  apply List.ext_getElem?
  intro j
  by_cases hj : j < mj_nf ci
  · rw [mj_fs_get hj, h j hj]
    by_cases hk : j = k
    · subst hk
      rw [List.getElem?_set_self (by rw [List.length_map, List.length_range]; exact hj), if_pos rfl]
    · rw [List.getElem?_set_ne (Ne.symm hk), mj_fs_get hj, if_neg hk]
  · rw [List.getElem?_eq_none (by rw [List.length_set, List.length_map, List.length_range]; omega), List.getElem?_eq_none (by rw [List.length_map, List.length_range]; omega)]
theorem mj_s_getf {idx : Nat} (C : mj_C p s m args meth c G y) (I : mj_I s G b sz n0 s0 y w f ls st H locs lsA) (hd : mj_dec y pc = some (.getfield idx)) (hs : mj_getf y w f pc ls st idx = some (w', f', pc', ls', st')) (kk : mj_K p l e R s m args below meth c Q G b sz n0 s0 y w' f' pc' ls' st') : mj_Wg p l e R s m args below meth c Q b sz n0 s0 w H locs pc lsA st := by
  obtain ⟨hx, hb, hml, hown, hts, hini, hok⟩ := C
  have hdg : decode (mj_code y) pc = .ok (.getfield idx, 3) := mj_dec_ok hd rfl (by decide)
  obtain ⟨⟨L, hP, hD, hL, hz, hwf, hr⟩, hS, hls, ho, hrest⟩ := id I
  unfold mj_getf at hs
  split at hs
  · next a r ci k q hq =>
    split at hs
    · next hw =>
      obtain ⟨CC, T, N, hc, hk, hlink⟩ := mj_fl_ok hq
      obtain ⟨hN, hci⟩ := mj_cl_nf hc
      subst hN
      obtain ⟨-, -, -, -, q0, hq0⟩ := mj_P_at (G := G) (b := b) (f := f) hL hwf (mj_lv_of hw hci)
      rw [mj_E_obj hw hci] at hq0
      have o1 := List.forall_mem_cons.mp ho
      have row : W p l e R s m args below meth c H locs (w.2.2.1 - n0) (w.2.2.2 - s0) Q (F0 m (pc + 3) lsA (mj_fv b sz w f ci a k :: r.map (mj_val b sz))) → mj_Wg p l e R s m args below meth c Q b sz n0 s0 w H locs pc lsA (.inr (.inl a) :: r) := by
        intro h
        rcases hlink with hlink | ⟨host, hlink⟩
        · exact va_get hx hb hts (mj_hin hc) hown hok.1 hP q0 hq0 hc k hk (hts _ (mj_t2 hlink rfl)) (fun x h => h) (mj_fs_get hk) hdg h
        · exact va_getN hx hb hts (mj_hin hc) hown hok.1 hP q0 hq0 hc k hk (va_Nw.use rfl (hok.2.2 _ (List.mem_of_getElem? hlink) rfl)) (fun x h => h) (mj_fs_get hk) hdg h
      split at hs
      · next hk2 =>
        split at hs
        · cases hs
        · next hne =>
          cases hs
          have h := kk _ _ _ (mj_I_st I (List.forall_mem_cons.mpr ⟨trivial, o1.2⟩))
          refine row ?_
          rw [show mj_fv b sz w f ci a k = .ref (mj_ad b sz (w.2.1 a k)) by unfold mj_fv mj_rv; rw [if_pos hk2, if_neg hne]]
          exact h
      · next hk2 =>
        cases hs
        have h := kk _ _ _ (mj_I_st I (List.forall_mem_cons.mpr ⟨hr a k, o1.2⟩))
        refine row ?_
        rw [show mj_fv b sz w f ci a k = .int (Int32.ofInt (f a k)) by unfold mj_fv; rw [if_neg hk2]]
        exact h
    · cases hs
  · cases hs
theorem mj_mayPut_ok {ci k : Nat} {CC : String} {T : u_T} {N : Nat} (hc : mj_cl[ci]? = some (CC, T, N)) (h : mj_mayPut y ci k = true) : (T k).2.2.2 = false ∨ ((T k).2.2.2 = true ∧ mj_isInit y = true ∧ mj_cn y = ci) := by
  unfold mj_mayPut at h
  rw [List.getD_eq_getElem?_getD, hc] at h
  simp only [Option.getD_some, Bool.or_eq_true, Bool.not_eq_true', Bool.and_eq_true, beq_iff_eq] at h
  rcases h with h | ⟨h1, h2⟩
  · exact Or.inl h
  · cases hf : (T k).2.2.2 with
    | false => exact Or.inl rfl
    | true => exact Or.inr ⟨rfl, h1, h2⟩
theorem mj_own_cl {ci : Nat} {CC : String} {T : u_T} {N : Nat} (hc : mj_cl[ci]? = some (CC, T, N)) {k : Nat} (hk : k < N) : (T k).1 = mj_owns.getD ci "" := by
  have h : ∀ k, k < N → (T k).1 = mj_owns.getD ci "" := mj_cl_cases (P := fun ci r => ∀ k, k < r.2.2 → (r.2.1 k).1 = mj_owns.getD ci "") hc (by decide +kernel) (by decide +kernel) (by decide +kernel) (by decide +kernel) (by decide +kernel) (by decide +kernel) (by decide +kernel) (by decide +kernel) (by decide +kernel) (by decide +kernel)
  exact h k hk
/-- how large the heap can be at most -/
theorem mj_Wsize {g : JFrame} {cells slots : Nat} (k : H.size ≤ s.heap.size + cells → W p l e R s m args below meth c H locs cells slots Q g) : W p l e R s m args below meth c H locs cells slots Q g := by
  intro T hT X
  have h := X.same.2.2.1
  exact k (by rw [← hT]; exact h) T hT X
theorem mj_S_trans {H1 : Heap} {locs1 : List Loc} (h : va_S (mj_A sz) s.heap H locs) (h1 : va_S (mj_A sz) H H1 locs1) : va_S (mj_A sz) s.heap H1 locs1 :=
  ⟨Nat.le_trans h.1 h1.1, fun q hq hn => (h1.2.1 q (Nat.lt_of_lt_of_le hq h.1) hn).trans (h.2.1 q hq hn), h1.2.2⟩
theorem mj_S_here (h : va_S (mj_A sz) s.heap H locs) : va_S (mj_A sz) H H locs := ⟨Nat.le_refl _, fun _ _ _ => rfl, h.2.2⟩
/-- behind a store: our invariant again -/
theorem mj_I_write {H1 : Heap} {locs1 : List Loc} {L : List Nat} {q0 a : Nat} {ev : va_E} {r : List mj_V} (I : mj_I s G b sz n0 s0 y w f ls st H locs lsA) (hD : va_D (mj_A sz) (va_pl L (mj_Cl G.2 b sz w f))) (hL : ∀ a, mj_lv w a → sz + a - 2 ∈ L) (ha : mj_lv w a) (hz : H.size + 2 = sz + w.2.2.1)
    (hq0 : (va_pl L (mj_Cl G.2 b sz w f))[q0]? = some (mj_ad b sz a, mj_E G.2 b sz w f a)) (he : mj_E G.2 b sz w' f' a = ev) (h1 : w'.1 = w.1) (h2 : ∀ x, x ≠ a → w'.2.1 x = w.2.1 x) (h3 : ∀ x, x ≠ a → f' x = f x) (h4 : w'.2.2 = w.2.2) (hr : ∀ a j, mj_rg (f' a j)) (ho : ∀ v ∈ r, mj_okv v)
    (hup : H1.size ≤ s.heap.size + (w.2.2.1 - n0))
    (hP1 : va_P G.1 mj_cl ((va_pl L (mj_Cl G.2 b sz w f)).set q0 (mj_ad b sz a, ev)) H1) (hD1 : va_D (mj_A sz) ((va_pl L (mj_Cl G.2 b sz w f)).set q0 (mj_ad b sz a, ev))) (hS1 : va_S (mj_A sz) H H1 locs1) : mj_I s G b sz n0 s0 y w' f' ls r H1 locs1 lsA := by
  obtain ⟨⟨-, -, -, -, -, hwf, -⟩, hS, hls, -, ⟨hn, hn2⟩, hb, hX, hn0, hs0⟩ := I
  have hlow := hS1.1
  have ha2 := (hwf.2.1 a ha).1
  refine ⟨mj_P.write hD hL hwf ha hq0 he h1 h2 h3 (by rw [h4]) (by omega) hr hP1 hD1, mj_S_trans hS hS1, hls, ho, ⟨hn, hn2⟩, hb, mj_X_keep hX (by rw [h1]) (h3 1 (by omega)), by rw [h4]; exact hn0, by rw [h4]; exact hs0⟩
theorem mj_nest_put : ((List.range 26).all fun cn => (mj_fts.getD cn []).all fun e => match lw_tbl[e.2.2.2]? with
    | some (.fieldLinkNest _ _ _ _ _ _) => !(cn == e.2.1)
    | _ => true) = true := by decide +kernel
/-- a field is written: the row -/
theorem mj_put_row {idx ci k q a : Nat} {v : Value} {r : List Value} {L : List Nat} {CC : String} {T : u_T} {N q0 : Nat} (C : mj_C p s m args meth c G y) (hdg : decode (mj_code y) pc = .ok (.putfield idx, 3)) (hP : va_P G.1 mj_cl (va_pl L (mj_Cl G.2 b sz w f)) H) (hD : va_D (mj_A sz) (va_pl L (mj_Cl G.2 b sz w f))) (hS : va_S (mj_A sz) H H locs)
    (hfl : mj_fl (mj_cn y) idx = some (ci, k, q)) (hc : mj_cl[ci]? = some (CC, T, N)) (hk : k < N) (hlink : (lw_tbl[q]? = some (.fieldLink (mj_owns.getD (mj_cn y) "") idx (T k).1 (T k).2.1 (T k).2.2.1)) ∨ ∃ host, lw_tbl[q]? = some (.fieldLinkNest (mj_owns.getD (mj_cn y) "") idx (T k).1 (T k).2.1 (T k).2.2.1 host)) (hmay : mj_mayPut y ci k = true)
    (hq0 : (va_pl L (mj_Cl G.2 b sz w f))[q0]? = some (mj_ad b sz a, .inr (ci, (List.range (mj_nf ci)).map (mj_fv b sz w f ci a)))) (hn : narrow (mj_ty ci k) v = v ∧ fits (mj_ty ci k) v = true)
    (kk : ∀ (H1 : Heap) (locs1 : List Loc), va_P G.1 mj_cl ((va_pl L (mj_Cl G.2 b sz w f)).set q0 (mj_ad b sz a, .inr (ci, ((List.range (mj_nf ci)).map (mj_fv b sz w f ci a)).set k v))) H1 → va_D (mj_A sz) ((va_pl L (mj_Cl G.2 b sz w f)).set q0 (mj_ad b sz a, .inr (ci, ((List.range (mj_nf ci)).map (mj_fv b sz w f ci a)).set k v))) → va_S (mj_A sz) H H1 locs1 → W p l e R s m args below meth c H1 locs1 (w.2.2.1 - n0) (w.2.2.2 - s0) Q (F0 m (pc + 3) lsA r)) :
    W p l e R s m args below meth c H locs (w.2.2.1 - n0) (w.2.2.2 - s0) Q (F0 m pc lsA (v :: .ref (mj_ad b sz a) :: r)) := by
  obtain ⟨hx, hb, hml, hown, hts, hini, hok⟩ := C
  obtain ⟨hN, hci⟩ := mj_cl_nf hc
  have hlen : k < ((List.range (mj_nf ci)).map (mj_fv b sz w f ci a)).length := by rw [List.length_map, List.length_range, hN]; exact hk
  rcases mj_mayPut_ok hc hmay with hfin | ⟨hfin, hi, hcn⟩
  · rcases hlink with hlink | ⟨host, hlink⟩
    · exact va_put hx hb hts (mj_hin hc) (mj_ty ci) (mj_cl_ty hc) (mj_cl_nm hc) hown hok.1 hP hD hS q0 hq0 hc k hk (hts _ (mj_t2 hlink rfl)) (fun x h => h) hfin (mj_cl_ty hc k hk) hn.1 hn.2 hlen hdg kk
    · exact va_putN hx hb hts (mj_hin hc) (mj_ty ci) (mj_cl_ty hc) (mj_cl_nm hc) hown hok.1 hP hD hS q0 hq0 hc k hk (va_Nw.use rfl (hok.2.2 _ (List.mem_of_getElem? hlink) rfl)) (fun x h => h) hfin (mj_cl_ty hc k hk) hn.1 hn.2 hlen hdg kk
  · rcases hlink with hlink | ⟨host, hlink⟩
    · exact va_putF hx hb hts (mj_hin hc) (mj_ty ci) (mj_cl_ty hc) (mj_cl_nm hc) hown hok.1 hP hD hS q0 hq0 hc k hk (hts _ (mj_t2 hlink rfl)) (fun x h => h) hfin (hini hi) (by rw [mj_own_cl hc hk, ← hcn]; rfl) (mj_cl_ty hc k hk) hn.1 hn.2 hlen hdg kk
    · have hm := mj_look_mem _ _ _ hfl
      have hl := mj_look_lt hfl
      rw [mj_fts_len] at hl
      have h1 := List.all_eq_true.mp (List.all_eq_true.mp mj_nest_put _ (List.mem_range.mpr hl)) _ hm
      dsimp only at h1
      rw [hlink] at h1
      simp [hcn] at h1
theorem mj_s_putf {idx : Nat} (C : mj_C p s m args meth c G y) (I : mj_I s G b sz n0 s0 y w f ls st H locs lsA) (hd : mj_dec y pc = some (.putfield idx)) (hs : mj_putf y w f pc ls st idx = some (w', f', pc', ls', st')) (kk : mj_K p l e R s m args below meth c Q G b sz n0 s0 y w' f' pc' ls' st') : mj_Wg p l e R s m args below meth c Q b sz n0 s0 w H locs pc lsA st := by
  have hdg : decode (mj_code y) pc = .ok (.putfield idx, 3) := mj_dec_ok hd rfl (by decide)
  obtain ⟨⟨L, hP, hD, hL, hz, hwf, hr⟩, hS, hls, ho, hrest⟩ := id I
  have hn := hrest.1
  unfold mj_putf at hs
  split at hs
  · next v a r ci k q hq =>
    split at hs
    · next hmay =>
      split at hs
      · next hw =>
        cases hs
        obtain ⟨CC, T, N, hc, hk, hlink⟩ := mj_fl_ok hq
        obtain ⟨hN, hci⟩ := mj_cl_nf hc
        have hlv := mj_lv_of hw.1 hci
        obtain ⟨g1, g2, g3, g4, q0, hq0⟩ := mj_P_at (G := G) (b := b) (f := f) hL hwf hlv
        have hq1 := hq0
        rw [mj_E_obj hw.1 hci] at hq1
        have o1 := List.forall_mem_cons.mp ho
        have o2 := List.forall_mem_cons.mp o1.2
        have hty := mj_tk_of hci (by rw [hN]; exact hk : k < mj_nf ci)
        have hkn : mj_kind ci k ≠ 2 := by rcases hw.2 with h | h <;> omega
        refine mj_put_row C hdg hP hD (mj_S_here hS) hq hc hk hlink hmay hq1 (mj_narrow_i (by rw [hty]; exact hw.2)) (fun H1 locs1 hP1 hD1 hS1 => mj_Wsize fun hup => ?_)
        refine kk _ _ _ (mj_I_write I hD hL hlv hz hq0 ?_ rfl (fun _ _ => rfl) (fun x hx => mj_u_ne hx) rfl (mj_u_rg hr o1.1) o2.2 hup hP1 hD1 hS1)
        rw [mj_E_obj hw.1 hci, mj_fs_set]
        intro j hj
        unfold mj_fv
        by_cases hjk : j = k
        · subst hjk
          rw [if_neg hkn, if_pos rfl, mj_u_self]
          dsimp only
          rw [if_pos rfl]
          rfl
        · rw [if_neg hjk, mj_u_self]
          dsimp only
          rw [if_neg hjk]
      · cases hs
    · cases hs
  · next v a r ci k q hq =>
    split at hs
    · next hmay =>
      split at hs
      · next hw =>
        cases hs
        obtain ⟨CC, T, N, hc, hk, hlink⟩ := mj_fl_ok hq
        obtain ⟨hN, hci⟩ := mj_cl_nf hc
        have hlv := mj_lv_of hw.1 hci
        obtain ⟨g1, g2, g3, g4, q0, hq0⟩ := mj_P_at (G := G) (b := b) (f := f) hL hwf hlv
        have hq1 := hq0
        rw [mj_E_obj hw.1 hci] at hq1
        have o1 := List.forall_mem_cons.mp ho
        have o2 := List.forall_mem_cons.mp o1.2
        have hty := mj_tk_of hci (by rw [hN]; exact hk : k < mj_nf ci)
        refine mj_put_row C hdg hP hD (mj_S_here hS) hq hc hk hlink hmay hq1 (mj_narrow_r (by rw [hty]; exact hw.2.1)) (fun H1 locs1 hP1 hD1 hS1 => mj_Wsize fun hup => ?_)
        refine kk _ _ _ (mj_I_write I hD hL hlv hz hq0 ?_ rfl (fun x hx => by funext j; simp [mj_ug, hx]) (fun _ _ => rfl) rfl hr o2.2 hup hP1 hD1 hS1)
        rw [mj_E_obj (w := mj_ug w a k v) hw.1 hci, mj_fs_set]
        intro j hj
        unfold mj_fv
        by_cases hjk : j = k
        · subst hjk
          rw [if_pos hw.2.1, if_pos rfl]
          have : (mj_ug w a j v).2.1 a j = v := by simp [mj_ug]
          rw [this]
          unfold mj_rv
          rw [if_neg (by omega)]
          rfl
        · rw [if_neg hjk]
          have : (mj_ug w a k v).2.1 a j = w.2.1 a j := by simp [mj_ug, hjk]
          rw [this]
      · cases hs
    · cases hs
  · cases hs
theorem mj_s_iald (C : mj_C p s m args meth c G y) (I : mj_I s G b sz n0 s0 y w f ls st H locs lsA) (hd : mj_dec y pc = some .iaload) (hs : mj_iald w f pc ls st = some (w', f', pc', ls', st')) (kk : mj_K p l e R s m args below meth c Q G b sz n0 s0 y w' f' pc' ls' st') : mj_Wg p l e R s m args below meth c Q b sz n0 s0 w H locs pc lsA st := by
  obtain ⟨hx, hb, hml, hown, hts, hini, hok⟩ := C
  have hdg : decode (mj_code y) pc = .ok (.iaload, 1) := mj_dec_ok hd rfl (by decide)
  obtain ⟨⟨L, hP, hD, hL, hz, hwf, hr⟩, hS, hls, ho, hn, hbz, hX, hrest⟩ := id I
  unfold mj_iald at hs
  split at hs
  · next j a r =>
    split at hs
    · next hw =>
      cases hs
      have o1 := List.forall_mem_cons.mp ho
      have o2 := List.forall_mem_cons.mp o1.2
      have h := kk _ _ _ (mj_I_st I (List.forall_mem_cons.mpr ⟨hr a j.toNat, o2.2⟩))
      have hin := mj_vpin o1.1 hw.2.1 hw.2.2
      rcases hw.1 with hk | hk
      · obtain ⟨-, -, -, -, q0, hq0⟩ := mj_P_at (G := G) (b := b) (f := f) hL hwf (a := a) (by unfold mj_lv; omega)
        rw [mj_E_100 hk] at hq0
        refine va_iald hx hb hok.1 hP q0 0 hq0 rfl hin hdg ?_
        rw [mj_clamp o1.1]
        exact h
      · have ha := hwf.2.2 a hk
        subst ha
        refine va_sld hx hb (hX hk) (by omega) (by show ¬ sz ≤ b; omega) hS hin hdg ?_
        rw [mj_clamp o1.1]
        exact h
    · cases hs
  · cases hs
theorem mj_s_bald (C : mj_C p s m args meth c G y) (I : mj_I s G b sz n0 s0 y w f ls st H locs lsA) (hd : mj_dec y pc = some .baload) (hs : mj_bald w f pc ls st = some (w', f', pc', ls', st')) (kk : mj_K p l e R s m args below meth c Q G b sz n0 s0 y w' f' pc' ls' st') : mj_Wg p l e R s m args below meth c Q b sz n0 s0 w H locs pc lsA st := by
  obtain ⟨hx, hb, hml, hown, hts, hini, hok⟩ := C
  have hdg : decode (mj_code y) pc = .ok (.baload, 1) := mj_dec_ok hd rfl (by decide)
  obtain ⟨⟨L, hP, hD, hL, hz, hwf, hr⟩, hS, hls, ho, hrest⟩ := id I
  unfold mj_bald at hs
  split at hs
  · next j a r =>
    split at hs
    · next hw =>
      cases hs
      have o1 := List.forall_mem_cons.mp ho
      have o2 := List.forall_mem_cons.mp o1.2
      have h := kk _ _ _ (mj_I_st I (List.forall_mem_cons.mpr ⟨hr a j.toNat, o2.2⟩))
      obtain ⟨-, -, -, -, q0, hq0⟩ := mj_P_at (G := G) (b := b) (f := f) hL hwf (a := a) (by unfold mj_lv; omega)
      rw [mj_E_101 hw.1] at hq0
      refine va_bald hx hb hok.1 hP q0 1 hq0 rfl (mj_vpin o1.1 hw.2.1 hw.2.2) hdg ?_
      rw [mj_clamp o1.1]
      exact h
    · cases hs
  · cases hs
theorem mj_s_lald (C : mj_C p s m args meth c G y) (I : mj_I s G b sz n0 s0 y w f ls st H locs lsA) (hd : mj_dec y pc = some .laload) (hs : mj_lald w f pc ls st = some (w', f', pc', ls', st')) (kk : mj_K p l e R s m args below meth c Q G b sz n0 s0 y w' f' pc' ls' st') : mj_Wg p l e R s m args below meth c Q b sz n0 s0 w H locs pc lsA st := by
  obtain ⟨hx, hb, hml, hown, hts, hini, hok⟩ := C
  have hdg : decode (mj_code y) pc = .ok (.laload, 1) := mj_dec_ok hd rfl (by decide)
  obtain ⟨⟨L, hP, hD, hL, hz, hwf, hr⟩, hS, hls, ho, hrest⟩ := id I
  unfold mj_lald at hs
  split at hs
  · next j a r =>
    split at hs
    · next hw =>
      cases hs
      have o1 := List.forall_mem_cons.mp ho
      have o2 := List.forall_mem_cons.mp o1.2
      have h := kk _ _ _ (mj_I_st I (List.forall_mem_cons.mpr ⟨(by have := hr a j.toNat; unfold mj_rg at this; exact ⟨by omega, by omega⟩), o2.2⟩))
      obtain ⟨-, -, -, -, q0, hq0⟩ := mj_P_at (G := G) (b := b) (f := f) hL hwf (a := a) (by unfold mj_lv; omega)
      rw [mj_E_103 hw.1] at hq0
      refine va_lald hx hb hok.1 hP q0 3 hq0 rfl (mj_vpin o1.1 hw.2.1 hw.2.2) hdg ?_
      rw [mj_clamp o1.1]
      exact h
    · cases hs
  · cases hs
theorem mj_s_aald (C : mj_C p s m args meth c G y) (I : mj_I s G b sz n0 s0 y w f ls st H locs lsA) (hd : mj_dec y pc = some .aaload) (hs : mj_aald w f pc ls st = some (w', f', pc', ls', st')) (kk : mj_K p l e R s m args below meth c Q G b sz n0 s0 y w' f' pc' ls' st') : mj_Wg p l e R s m args below meth c Q b sz n0 s0 w H locs pc lsA st := by
  obtain ⟨hx, hb, hml, hown, hts, hini, hok⟩ := C
  have hdg : decode (mj_code y) pc = .ok (.aaload, 1) := mj_dec_ok hd rfl (by decide)
  obtain ⟨⟨L, hP, hD, hL, hz, hwf, hr⟩, hS, hls, ho, hrest⟩ := id I
  unfold mj_aald at hs
  split at hs
  · next j a r =>
    split at hs
    · next hw =>
      cases hs
      have o1 := List.forall_mem_cons.mp ho
      have o2 := List.forall_mem_cons.mp o1.2
      have h := kk _ _ _ (mj_I_st I (List.forall_mem_cons.mpr ⟨trivial, o2.2⟩))
      obtain ⟨-, -, -, -, q0, hq0⟩ := mj_P_at (G := G) (b := b) (f := f) hL hwf (a := a) (by unfold mj_lv; omega)
      rw [mj_E_102 hw.1] at hq0
      refine va_aldq hx hb hok.1 hP q0 2 hq0 rfl (mj_vpin o1.1 hw.2.1.1 hw.2.1.2) hdg ?_
      rw [mj_clamp o1.1, if_neg hw.2.2]
      exact h
    · cases hs
  · cases hs
theorem mj_upd_of {a i : Nat} {v : Int} : (fun j => Int32.ofInt (mj_u f a i v a j)) = upd (fun j => Int32.ofInt (f a j)) i (Int32.ofInt v) := by
  funext j
  rw [mj_u_self]
  unfold upd
  dsimp only
  split <;> rfl
theorem mj_s_iast (C : mj_C p s m args meth c G y) (I : mj_I s G b sz n0 s0 y w f ls st H locs lsA) (hd : mj_dec y pc = some .iastore) (hs : mj_iast w f pc ls st = some (w', f', pc', ls', st')) (kk : mj_K p l e R s m args below meth c Q G b sz n0 s0 y w' f' pc' ls' st') : mj_Wg p l e R s m args below meth c Q b sz n0 s0 w H locs pc lsA st := by
  obtain ⟨hx, hb, hml, hown, hts, hini, hok⟩ := C
  have hdg : decode (mj_code y) pc = .ok (.iastore, 1) := mj_dec_ok hd rfl (by decide)
  obtain ⟨⟨L, hP, hD, hL, hz, hwf, hr⟩, hS, hls, ho, hrest⟩ := id I
  unfold mj_iast at hs
  split at hs
  · next v j a r =>
    split at hs
    · next hw =>
      cases hs
      have o1 := List.forall_mem_cons.mp ho
      have o2 := List.forall_mem_cons.mp o1.2
      have o3 := List.forall_mem_cons.mp o2.2
      have hlv : mj_lv w a := by unfold mj_lv; omega
      obtain ⟨-, -, -, -, q0, hq0⟩ := mj_P_at (G := G) (b := b) (f := f) hL hwf hlv
      have hq1 := hq0
      rw [mj_E_100 hw.1] at hq1
      refine va_iast hx hb hok.1 hP hD (mj_S_here hS) q0 0 hq1 rfl (mj_vpin o2.1 hw.2.1 hw.2.2) hdg (fun H1 locs1 hP1 hD1 hS1 => mj_Wsize fun hup => ?_)
      refine kk _ _ _ (mj_I_write I hD hL hlv hz hq0 ?_ rfl (fun _ _ => rfl) (fun x hx => mj_u_ne hx) rfl (mj_u_rg hr o1.1) o3.2 hup hP1 hD1 hS1)
      rw [mj_E_100 hw.1, mj_upd_of, mj_clamp o2.1]
    · cases hs
  · cases hs
theorem mj_w8_nar (x : Int) : vp_nar .byte (Int32.ofInt x) = Int32.ofInt (mj_w8 x) := by
  rw [← mj_w8_of]
  rfl
theorem mj_s_bast (C : mj_C p s m args meth c G y) (I : mj_I s G b sz n0 s0 y w f ls st H locs lsA) (hd : mj_dec y pc = some .bastore) (hs : mj_bast w f pc ls st = some (w', f', pc', ls', st')) (kk : mj_K p l e R s m args below meth c Q G b sz n0 s0 y w' f' pc' ls' st') : mj_Wg p l e R s m args below meth c Q b sz n0 s0 w H locs pc lsA st := by
  obtain ⟨hx, hb, hml, hown, hts, hini, hok⟩ := C
  have hdg : decode (mj_code y) pc = .ok (.bastore, 1) := mj_dec_ok hd rfl (by decide)
  obtain ⟨⟨L, hP, hD, hL, hz, hwf, hr⟩, hS, hls, ho, hrest⟩ := id I
  unfold mj_bast at hs
  split at hs
  · next v j a r =>
    split at hs
    · next hw =>
      cases hs
      have o1 := List.forall_mem_cons.mp ho
      have o2 := List.forall_mem_cons.mp o1.2
      have o3 := List.forall_mem_cons.mp o2.2
      have hlv : mj_lv w a := by unfold mj_lv; omega
      obtain ⟨-, -, -, -, q0, hq0⟩ := mj_P_at (G := G) (b := b) (f := f) hL hwf hlv
      have hq1 := hq0
      rw [mj_E_101 hw.1] at hq1
      refine va_bast hx hb hok.1 hP hD (mj_S_here hS) q0 1 hq1 rfl (mj_vpin o2.1 hw.2.1 hw.2.2) hdg (fun H1 locs1 hP1 hD1 hS1 => mj_Wsize fun hup => ?_)
      refine kk _ _ _ (mj_I_write I hD hL hlv hz hq0 ?_ rfl (fun _ _ => rfl) (fun x hx => mj_u_ne hx) rfl (mj_u_rg hr (mj_w8_rg _)) o3.2 hup hP1 hD1 hS1)
      rw [mj_E_101 hw.1, mj_upd_of, mj_clamp o2.1, mj_w8_nar]
    · cases hs
  · cases hs
theorem mj_s_aast (C : mj_C p s m args meth c G y) (I : mj_I s G b sz n0 s0 y w f ls st H locs lsA) (hd : mj_dec y pc = some .aastore) (hs : mj_aast w f pc ls st = some (w', f', pc', ls', st')) (kk : mj_K p l e R s m args below meth c Q G b sz n0 s0 y w' f' pc' ls' st') : mj_Wg p l e R s m args below meth c Q b sz n0 s0 w H locs pc lsA st := by
  obtain ⟨hx, hb, hml, hown, hts, hini, hok⟩ := C
  have hdg : decode (mj_code y) pc = .ok (.aastore, 1) := mj_dec_ok hd rfl (by decide)
  obtain ⟨⟨L, hP, hD, hL, hz, hwf, hr⟩, hS, hls, ho, hrest⟩ := id I
  unfold mj_aast at hs
  split at hs
  · next v j a r =>
    split at hs
    · next hw =>
      cases hs
      have o1 := List.forall_mem_cons.mp ho
      have o2 := List.forall_mem_cons.mp o1.2
      have o3 := List.forall_mem_cons.mp o2.2
      have hlv : mj_lv w a := by unfold mj_lv; omega
      have hlv2 : mj_lv w v := mj_lv_of hw.2.2 (by decide)
      obtain ⟨-, -, -, -, q0, hq0⟩ := mj_P_at (G := G) (b := b) (f := f) hL hwf hlv
      obtain ⟨gv, -, -, -, qv, hqv⟩ := mj_P_at (G := G) (b := b) (f := f) hL hwf hlv2
      have hq1 := hq0
      rw [mj_E_102 hw.1] at hq1
      rw [mj_E_obj hw.2.2 (by decide)] at hqv
      refine va_astq (r := (RX7, TX7, 3)) hx hb hok.1 hP hD (mj_S_here hS) q0 2 qv 7 hq1 rfl hqv rfl (mj_vpin o2.1 hw.2.1.1 hw.2.1.2) hdg (fun H1 locs1 hP1 hD1 hS1 => mj_Wsize fun hup => ?_)
      refine kk _ _ _ (mj_I_write I hD hL hlv hz hq0 ?_ rfl (fun x hx => by funext i; simp [mj_ug, hx]) (fun _ _ => rfl) rfl hr o3.2 hup hP1 hD1 hS1)
      rw [mj_E_102 (w := mj_ug w a j.toNat v) hw.1, mj_clamp o2.1]
      have hF : (fun i => if (mj_ug w a j.toNat v).2.1 a i = 0 then none else some (mj_ad b sz ((mj_ug w a j.toNat v).2.1 a i))) = va_up (fun i => if w.2.1 a i = 0 then none else some (mj_ad b sz (w.2.1 a i))) j.toNat (some (mj_ad b sz v)) := by
        funext i
        unfold va_up
        by_cases hi : i = j.toNat
        · rw [if_pos hi]
          have : (mj_ug w a j.toNat v).2.1 a i = v := by simp [mj_ug, hi]
          rw [this, if_neg (by omega)]
        · rw [if_neg hi]
          have : (mj_ug w a j.toNat v).2.1 a i = w.2.1 a i := by simp [mj_ug, hi]
          rw [this]
      rw [hF]
      rfl
    · cases hs
  · cases hs
theorem mj_s_alen (C : mj_C p s m args meth c G y) (I : mj_I s G b sz n0 s0 y w f ls st H locs lsA) (hd : mj_dec y pc = some .arraylength) (hs : mj_alen w f pc ls st = some (w', f', pc', ls', st')) (kk : mj_K p l e R s m args below meth c Q G b sz n0 s0 y w' f' pc' ls' st') : mj_Wg p l e R s m args below meth c Q b sz n0 s0 w H locs pc lsA st := by
  obtain ⟨hx, hb, hml, hown, hts, hini, hok⟩ := C
  have hdg : decode (mj_code y) pc = .ok (.arraylength, 1) := mj_dec_ok hd rfl (by decide)
  obtain ⟨⟨L, hP, hD, hL, hz, hwf, hr⟩, hS, hls, ho, hn, hbz, hX, hrest⟩ := id I
  unfold mj_alen at hs
  split at hs
  · next a r =>
    split at hs
    · next hw =>
      cases hs
      have o1 := List.forall_mem_cons.mp ho
      have hrg : mj_rg ((w.1 a).2 : Int) := ⟨by omega, by omega⟩
      have h := kk _ _ _ (mj_I_st I (List.forall_mem_cons.mpr ⟨hrg, o1.2⟩))
      have hv : Int32.ofNat (w.1 a).2 = Int32.ofInt ((w.1 a).2 : Int) := (Int32.ofInt_eq_ofNat).symm
      by_cases h4 : (w.1 a).1 = 104
      · have ha := hwf.2.2 a h4
        subst ha
        have hbl : b < s.heap.size := by
          have h6 := hn.1
          have h7 := hn.2
          omega
        refine va_slen hx hb (hX h4) hbl (by show ¬ sz ≤ b; omega) hS hdg ?_
        rw [hv]
        exact h
      · have hlv : mj_lv w a := by unfold mj_lv; omega
        obtain ⟨-, -, -, -, q0, hq0⟩ := mj_P_at (G := G) (b := b) (f := f) hL hwf hlv
        have h5 : (w.1 a).1 = 100 ∨ (w.1 a).1 = 101 ∨ (w.1 a).1 = 102 ∨ (w.1 a).1 = 103 := by omega
        rcases h5 with h5 | h5 | h5 | h5
        · rw [mj_E_100 h5] at hq0
          exact va_alen hx hb hok.1 hP q0 0 hq0 rfl hv hdg h
        · rw [mj_E_101 h5] at hq0
          exact va_alen hx hb hok.1 hP q0 1 hq0 rfl hv hdg h
        · rw [mj_E_102 h5] at hq0
          exact va_alen hx hb hok.1 hP q0 2 hq0 rfl hv hdg h
        · rw [mj_E_103 h5] at hq0
          exact va_alen hx hb hok.1 hP q0 3 hq0 rfl hv hdg h
    · cases hs
  · cases hs
end MJ
