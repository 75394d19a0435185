/-! The world: what the heap holds for a flat memory. -/
abbrev mj_G : Type := va_G × (Nat → ClassId)
def mj_zn : String := "ClockZones$Zone"
def mj_tys (c : Nat → ClassId) : List (ClassId × FieldType) := [(c 0, .int), (c 1, .byte), (c 2, .object mj_zn), (c 3, .long)]
def mj_rv (b sz r : Nat) : Value := if r = 0 then .null else .ref (mj_ad b sz r)
def mj_fv (b sz : Nat) (w : mj_W) (f : mj_F) (ci a k : Nat) : Value := if mj_kind ci k = 2 then mj_rv b sz (w.2.1 a k) else .int (Int32.ofInt (f a k))
def mj_E (c : Nat → ClassId) (b sz : Nat) (w : mj_W) (f : mj_F) (a : Nat) : va_E :=
  if (w.1 a).1 = 100 then .inl (c 0, (w.1 a).2, .inl (fun j => Int32.ofInt (f a j)))
  else if (w.1 a).1 = 101 then .inl (c 1, (w.1 a).2, .inl (fun j => Int32.ofInt (f a j)))
  else if (w.1 a).1 = 102 then .inl (c 2, (w.1 a).2, .inr (.inr (.inr (.inr (fun j => if w.2.1 a j = 0 then none else some (mj_ad b sz (w.2.1 a j)))))))
  else if (w.1 a).1 = 103 then .inl (c 3, (w.1 a).2, .inr (.inl (fun j => Int64.ofInt (f a j))))
  else .inr ((w.1 a).1, (List.range (mj_nf (w.1 a).1)).map (mj_fv b sz w f (w.1 a).1 a))
def mj_lv (w : mj_W) (a : Nat) : Prop := (w.1 a).1 < 10 ∨ 100 ≤ (w.1 a).1 ∧ (w.1 a).1 ≤ 103
def mj_wf (w : mj_W) : Prop := 2 ≤ w.2.2.1 ∧ (∀ a, mj_lv w a → 2 ≤ a ∧ a < w.2.2.1) ∧ ∀ a, (w.1 a).1 = 104 → a = 1
def mj_Cl (c : Nat → ClassId) (b sz : Nat) (w : mj_W) (f : mj_F) (q : Nat) : va_E := mj_E c b sz w f (q + 2 - sz)
abbrev mj_A (sz : Nat) : Nat → Prop := fun q => sz ≤ q
/-- the heap holds the memory -/
def mj_P (G : mj_G) (b sz : Nat) (w : mj_W) (f : mj_F) (H : Heap) : Prop :=
  ∃ L : List Nat, va_P G.1 mj_cl (va_pl L (mj_Cl G.2 b sz w f)) H ∧ va_D (mj_A sz) (va_pl L (mj_Cl G.2 b sz w f)) ∧ (∀ a, mj_lv w a → sz + a - 2 ∈ L) ∧ H.size + 2 = sz + w.2.2.1 ∧ mj_wf w ∧ ∀ a j, mj_rg (f a j)
theorem mj_E_congr {c : Nat → ClassId} {b sz : Nat} {w w' : mj_W} {f f' : mj_F} {a : Nat} (h1 : w'.1 a = w.1 a) (h2 : w'.2.1 a = w.2.1 a) (h3 : f' a = f a) : mj_E c b sz w' f' a = mj_E c b sz w f a := by
  unfold mj_E
  rw [h1, h2, h3]
  have h4 : mj_fv b sz w' f' (w.1 a).1 a = mj_fv b sz w f (w.1 a).1 a := by
    funext k
    unfold mj_fv
    rw [h2, h3]
  rw [h4]
theorem mj_pl_get {L : List Nat} {F : Nat → va_E} {q : Nat} (h : q ∈ L) : ∃ k : Nat, (va_pl L F)[k]? = some (q, F q) := by
  obtain ⟨k, hk⟩ := va_pl_get (X := []) (f := F) h
  exact ⟨k, hk⟩
theorem mj_pl_congr {L : List Nat} {F F' : Nat → va_E} (h : ∀ q ∈ L, F' q = F q) : va_pl L F' = va_pl L F := by
  unfold va_pl
  exact List.map_congr_left (fun q hq => by rw [h q hq])
theorem mj_pl_set {A : Nat → Prop} {L : List Nat} {F F' : Nat → va_E} {k q : Nat} {e : va_E} (hD : va_D A (va_pl L F)) (h : q ∈ L) (hk : (va_pl L F)[k]? = some (q, F q)) (he : F' q = e) (ho : ∀ x ∈ L, x ≠ q → F' x = F x) : (va_pl L F).set k (q, e) = va_pl L F' := by
  have h1 := va_pl_set (X := []) (e := e) hD h hk
  refine h1.trans (mj_pl_congr (fun x hx => ?_))
  by_cases hq : x = q
  · subst hq
    rw [va_up_self, he]
  · rw [va_up_ne _ _ hq, ho x hx hq]
theorem mj_pl_push {L : List Nat} {F F' : Nat → va_E} {q : Nat} {e : va_E} (h : q ∉ L) (he : F' q = e) (ho : ∀ x ∈ L, F' x = F x) : va_pl L F ++ [(q, e)] = va_pl (L ++ [q]) F' := by
  rw [va_pl_push h]
  refine mj_pl_congr (fun x hx => ?_)
  by_cases hq : x = q
  · subst hq
    rw [va_up_self, he]
  · rw [va_up_ne _ _ hq]
    rcases List.mem_append.mp hx with h1 | h1
    · exact (ho x h1).symm
    · exact absurd (List.mem_singleton.mp h1) hq
theorem mj_Cl_ad {c : Nat → ClassId} {b sz : Nat} {w : mj_W} {f : mj_F} {a : Nat} (h : 2 ≤ a) : mj_Cl c b sz w f (sz + a - 2) = mj_E c b sz w f a := by
  unfold mj_Cl
  rw [show sz + a - 2 + 2 - sz = a by omega]
theorem mj_ad_2 {b sz a : Nat} (h : 2 ≤ a) : mj_ad b sz a = sz + a - 2 := by unfold mj_ad; rw [if_neg (by omega)]
theorem mj_mem_sz {sz : Nat} {L : List Nat} {F : Nat → va_E} (hD : va_D (mj_A sz) (va_pl L F)) {q : Nat} (h : q ∈ L) : sz ≤ q := by
  obtain ⟨k, hk⟩ := mj_pl_get (F := F) h
  exact hD.2 k _ hk
theorem mj_mem_lt {D : va_G} {cl : List vw_C} {L : List Nat} {F : Nat → va_E} {H : Heap} (hP : va_P D cl (va_pl L F) H) {q : Nat} (h : q ∈ L) : q < H.size := by
  obtain ⟨k, hk⟩ := mj_pl_get (F := F) h
  exact (hP k _ hk).lt
/-- a cell of ours, as it lies in the heap's list -/
theorem mj_P_at {G : mj_G} {b sz : Nat} {w : mj_W} {f : mj_F} {L : List Nat} (hL : ∀ a, mj_lv w a → sz + a - 2 ∈ L) (hwf : mj_wf w) {a : Nat} (ha : mj_lv w a) : 2 ≤ a ∧ a < w.2.2.1 ∧ mj_ad b sz a = sz + a - 2 ∧ sz + a - 2 ∈ L ∧ ∃ k : Nat, (va_pl L (mj_Cl G.2 b sz w f))[k]? = some (mj_ad b sz a, mj_E G.2 b sz w f a) := by
  have h2 := hwf.2.1 a ha
  have hm := hL a ha
  obtain ⟨k, hk⟩ := mj_pl_get (F := mj_Cl G.2 b sz w f) hm
  rw [mj_Cl_ad h2.1] at hk
  exact ⟨h2.1, h2.2, mj_ad_2 h2.1, hm, k, by rw [mj_ad_2 h2.1]; exact hk⟩
/-- one cell is written: the new memory is like the old one but at a -/
theorem mj_P.write {G : mj_G} {b sz : Nat} {w w' : mj_W} {f f' : mj_F} {H1 : Heap} {L : List Nat} {k a : Nat} {e : va_E} (hD : va_D (mj_A sz) (va_pl L (mj_Cl G.2 b sz w f))) (hL : ∀ a, mj_lv w a → sz + a - 2 ∈ L) (hwf : mj_wf w) (ha : mj_lv w a)
    (hk : (va_pl L (mj_Cl G.2 b sz w f))[k]? = some (mj_ad b sz a, mj_E G.2 b sz w f a)) (he : mj_E G.2 b sz w' f' a = e) (h1 : w'.1 = w.1) (h2 : ∀ x, x ≠ a → w'.2.1 x = w.2.1 x) (h3 : ∀ x, x ≠ a → f' x = f x) (h4 : w'.2.2.1 = w.2.2.1) (hz : H1.size + 2 = sz + w.2.2.1) (hr : ∀ a j, mj_rg (f' a j))
    (hP1 : va_P G.1 mj_cl ((va_pl L (mj_Cl G.2 b sz w f)).set k (mj_ad b sz a, e)) H1) (hD1 : va_D (mj_A sz) ((va_pl L (mj_Cl G.2 b sz w f)).set k (mj_ad b sz a, e))) : mj_P G b sz w' f' H1 := by
  have g := hwf.2.1 a ha
  have hm := hL a ha
  rw [mj_ad_2 g.1] at hk hP1 hD1
  have hs : (va_pl L (mj_Cl G.2 b sz w f)).set k (sz + a - 2, e) = va_pl L (mj_Cl G.2 b sz w' f') := by
    refine mj_pl_set hD hm (by rw [hk, mj_Cl_ad g.1]) (by rw [mj_Cl_ad g.1, he]) (fun x hx hne => ?_)
    have := mj_mem_sz hD hx
    have hxa : x + 2 - sz ≠ a := by omega
    exact mj_E_congr (by rw [h1]) (h2 _ hxa) (h3 _ hxa)
  rw [hs] at hP1 hD1
  have hlv : ∀ x, mj_lv w' x ↔ mj_lv w x := fun x => by unfold mj_lv; rw [h1]
  refine ⟨L, hP1, hD1, fun x hx => hL x ((hlv x).mp hx), by rw [h4]; exact hz, ⟨by rw [h4]; exact hwf.1, fun x hx => by rw [h4]; exact hwf.2.1 x ((hlv x).mp hx), fun x hx => hwf.2.2 x (by rw [← h1]; exact hx)⟩, hr⟩
/-- a cell is made -/
theorem mj_P.push {G : mj_G} {b sz : Nat} {w : mj_W} {f f' : mj_F} {H H1 : Heap} {L : List Nat} {t : Nat × Nat} {n : Nat} {e : va_E} (hP : va_P G.1 mj_cl (va_pl L (mj_Cl G.2 b sz w f)) H) (hD : va_D (mj_A sz) (va_pl L (mj_Cl G.2 b sz w f))) (hL : ∀ a, mj_lv w a → sz + a - 2 ∈ L) (hz : H.size + 2 = sz + w.2.2.1) (hwf : mj_wf w) (hr : ∀ a j, mj_rg (f a j)) (ht : t.1 ≠ 104) {q : Nat}
    (hq : q = H.size) (he : mj_E G.2 b sz (mj_new w t n) (mj_z f w.2.2.1) w.2.2.1 = e) (hz1 : H1.size = H.size + 1)
    (hP1 : va_P G.1 mj_cl (va_pl L (mj_Cl G.2 b sz w f) ++ [(q, e)]) H1) (hD1 : va_D (mj_A sz) (va_pl L (mj_Cl G.2 b sz w f) ++ [(q, e)])) : mj_P G b sz (mj_new w t n) (mj_z f w.2.2.1) H1 ∧ q = mj_ad b sz w.2.2.1 := by
  have g := hwf.1
  have hqa : q = sz + w.2.2.1 - 2 := by omega
  have hnew : ∀ x, x ≠ w.2.2.1 → mj_E G.2 b sz (mj_new w t n) (mj_z f w.2.2.1) x = mj_E G.2 b sz w f x := fun x hx => mj_E_congr (by simp [mj_new, hx]) (by funext j; simp [mj_new, hx]) (by funext j; simp [mj_z, hx])
  have hs : va_pl L (mj_Cl G.2 b sz w f) ++ [(q, e)] = va_pl (L ++ [q]) (mj_Cl G.2 b sz (mj_new w t n) (mj_z f w.2.2.1)) := by
    refine mj_pl_push (fun h => ?_) ?_ (fun x hx => ?_)
    · have := mj_mem_lt hP h
      omega
    · rw [hqa, mj_Cl_ad g, he]
    · have h1 := mj_mem_sz hD hx
      have h2 := mj_mem_lt hP hx
      exact hnew _ (by omega)
  rw [hs] at hP1 hD1
  refine ⟨⟨L ++ [q], hP1, hD1, fun a ha => ?_, by show _ = sz + (w.2.2.1 + 1); omega, ⟨by show 2 ≤ w.2.2.1 + 1; omega, fun a ha => ?_, fun a ha => ?_⟩, fun a j => ?_⟩, by rw [mj_ad_2 g, hqa]⟩
  · by_cases hx : a = w.2.2.1
    · subst hx
      exact List.mem_append_right _ (by rw [hqa]; exact List.mem_singleton.mpr rfl)
    · have : mj_lv w a := by simpa [mj_lv, mj_new, hx] using ha
      exact List.mem_append_left _ (hL a this)
  · show 2 ≤ a ∧ a < w.2.2.1 + 1
    by_cases hx : a = w.2.2.1
    · omega
    · have h1 : mj_lv w a := by simpa [mj_lv, mj_new, hx] using ha
      have := hwf.2.1 a h1
      omega
  · by_cases hx : a = w.2.2.1
    · subst hx
      simp [mj_new] at ha
      exact absurd ha ht
    · exact hwf.2.2 a (by simpa [mj_new, hx] using ha)
  · unfold mj_z
    split
    · exact mj_rg0
    · exact hr a j
