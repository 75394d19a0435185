/-! The reference's closing gives the greatest closed table. -/
def pvI (k : Nat) (A : Mt) : Mt := fun i j => if rp (A i k) (A k j) < A i j then rp (A i k) (A k j) else A i j
def NI (n : Nat) (A : Mt) : Prop := ∀ i j, i < n → j < n → -1000000 < A i j ∧ A i j ≤ 1000000
theorem NI_sml {n : Nat} {A : Mt} (h : NI n A) {i j : Nat} (hi : i < n) (hj : j < n) : sml 1000000 (rv (A i j)) := by
  intro x hx
  have := rv_i hx
  have := h i j hi hj
  omega
theorem fwj_eq {n k i : Nat} {A : Mt} (h : ¬ rp (A i k) (A k k) < A i k) : ∀ m, itr m (fun j A => tg A i j (rp (A i k) (A k j))) A = fun x y => if x = i ∧ y < m then pvI k A x y else A x y := by
  intro m
  induction m with
  | zero =>
    funext x y
    rw [if_neg (by omega)]
    rfl
  | succ m ih =>
    show tg (itr m (fun j A => tg A i j (rp (A i k) (A k j))) A) i m (rp _ _) = _
    rw [ih]
    have e1 : (if i = i ∧ k < m then pvI k A i k else A i k) = A i k := by
      split
      · unfold pvI; rw [if_neg h]
      · rfl
    have e2 : (if k = i ∧ m < m then pvI k A k m else A k m) = A k m := if_neg (by omega)
    have e3 : (if i = i ∧ m < m then pvI k A i m else A i m) = A i m := if_neg (by omega)
    unfold tg
    show (if rp (if i = i ∧ k < m then pvI k A i k else A i k) (if k = i ∧ m < m then pvI k A k m else A k m) < (if i = i ∧ m < m then pvI k A i m else A i m) then um _ i m (rp (if i = i ∧ k < m then pvI k A i k else A i k) (if k = i ∧ m < m then pvI k A k m else A k m)) else _) = _
    rw [e1, e2, e3]
    by_cases hv : rp (A i k) (A k m) < A i m
    · rw [if_pos hv]
      funext x y
      unfold um
      by_cases hx : x = i ∧ y = m
      · rw [if_pos hx, if_pos (by omega), hx.1, hx.2]
        unfold pvI
        rw [if_pos hv]
      · rw [if_neg hx]
        show (if x = i ∧ y < m then pvI k A x y else A x y) = _
        by_cases hy : x = i ∧ y < m
        · rw [if_pos hy, if_pos (by omega)]
        · rw [if_neg hy, if_neg (by omega)]
    · rw [if_neg hv]
      funext x y
      by_cases hx : x = i ∧ y = m
      · rw [if_neg (by omega), if_pos (by omega), hx.1, hx.2]
        unfold pvI
        rw [if_neg hv]
      · by_cases hy : x = i ∧ y < m
        · rw [if_pos hy, if_pos (by omega)]
        · rw [if_neg hy, if_neg (by omega)]
theorem fwi_eq {n k : Nat} (hk : k < n) {A : Mt} (hn : NI n A) (hc : ∀ i, i < n → ¬ rp (A i k) (A k k) < A i k) (hr : ∀ j, j < n → ¬ rp (A k k) (A k j) < A k j) : ∀ m, m ≤ n → itr m (fun i A => if 1000000 ≤ A i k then A else fwj n k i A) A = fun x y => if x < m ∧ y < n then pvI k A x y else A x y := by
  intro m
  induction m with
  | zero =>
    intro _
    funext x y
    rw [if_neg (by omega)]
    rfl
  | succ m ih =>
    intro hm
    show (fun B : Mt => if 1000000 ≤ B m k then B else fwj n k m B) (itr m (fun i A => if 1000000 ≤ A i k then A else fwj n k i A) A) = _
    rw [ih (by omega)]
    have pc : ∀ i, i < n → pvI k A i k = A i k := fun i hi => by unfold pvI; rw [if_neg (hc i hi)]
    have pr : ∀ j, j < n → pvI k A k j = A k j := fun j hj => by unfold pvI; rw [if_neg (hr j hj)]
    have e1 : (if m < m ∧ k < n then pvI k A m k else A m k) = A m k := if_neg (by omega)
    have e2 : ∀ y, y < n → (if k < m ∧ y < n then pvI k A k y else A k y) = A k y := fun y hy => by
      split
      · exact pr y hy
      · rfl
    have e3 : ∀ y, (if m < m ∧ y < n then pvI k A m y else A m y) = A m y := fun y => if_neg (by omega)
    show (if 1000000 ≤ (if m < m ∧ k < n then pvI k A m k else A m k) then _ else _) = _
    rw [e1]
    by_cases hf : 1000000 ≤ A m k
    · rw [if_pos hf]
      funext x y
      by_cases hx : x < m ∧ y < n
      · rw [if_pos hx, if_pos (by omega)]
      · rw [if_neg hx]
        by_cases hy : x < m + 1 ∧ y < n
        · rw [if_pos hy]
          have ex : x = m := by omega
          rw [ex]
          unfold pvI rp
          rw [if_pos hf, if_neg (by have := (hn m y (by omega) hy.2).2; omega)]
        · rw [if_neg hy]
    · rw [if_neg hf]
      unfold fwj
      rw [fwj_eq (n := n) (k := k) (i := m) (A := fun x y => if x < m ∧ y < n then pvI k A x y else A x y) (by
        show ¬ rp (if m < m ∧ k < n then pvI k A m k else A m k) (if k < m ∧ k < n then pvI k A k k else A k k) < (if m < m ∧ k < n then pvI k A m k else A m k)
        rw [e1, e2 k hk]
        exact hc m (by omega)) n]
      funext x y
      by_cases hx : x = m ∧ y < n
      · rw [if_pos hx, if_pos (by omega), hx.1]
        show (if rp (if m < m ∧ k < n then pvI k A m k else A m k) (if k < m ∧ y < n then pvI k A k y else A k y) < (if m < m ∧ y < n then pvI k A m y else A m y) then rp (if m < m ∧ k < n then pvI k A m k else A m k) (if k < m ∧ y < n then pvI k A k y else A k y) else (if m < m ∧ y < n then pvI k A m y else A m y)) = pvI k A m y
        rw [e1, e2 y hx.2, e3 y]
        rfl
      · rw [if_neg hx]
        by_cases hy : x < m ∧ y < n
        · rw [if_pos hy, if_pos (by omega)]
        · rw [if_neg hy, if_neg (by omega)]
theorem Iv_e {n : Nat} {M : Int} {k : Nat} (hk : k ≤ n) {A0 A B : Bt} (e : Eqn n A B) (h : Iv n M k A0 A) : Iv n M k A0 B := by
  obtain ⟨h1, h2, h3, h4, h5⟩ := h
  refine ⟨fun i j p hi hj hp hpk => ?_, fun p hp hpk => ?_, fun i j hi hj => ?_, fun D hd hb i j hi hj => ?_, fun i j x hi hj hx => ?_⟩
  · rw [← e i j hi hj, ← e i p hi hp, ← e p j hp hj]; exact h1 i j p hi hj hp hpk
  · rw [← e p p hp hp]; exact h2 p hp hpk
  · rw [← e i j hi hj]; exact h3 i j hi hj
  · rw [← e i j hi hj]; exact h4 D hd hb i j hi hj
  · rw [← e i j hi hj] at hx
    obtain ⟨S, a1, a2, a3, a4⟩ := h5 i j x hi hj hx
    refine ⟨S, a1, a2, a3, fun p hp => ?_⟩
    have hpn : p < n := by have := a1 p hp; omega
    rw [← e i j hi hj, ← e i p hi hpn, ← e p j hpn hj]
    exact a4 p hp
theorem le1_rv {b : Int} (h : 1 ≤ b) : ble (some 1) (rv b) := by
  unfold rv
  split
  · exact trivial
  · exact h
theorem nle1_rv {b : Int} (h : b < 1) : ¬ ble (some 1) (rv b) := by
  rw [rv_s (by omega)]
  intro q
  have : (1 : Int) ≤ b := q
  omega
theorem fwi_piv {n k : Nat} (hk : k < n) {M : Int} (hM : 0 ≤ M) (hb : bm M n ≤ 1000000) {A0 : Bt} {A : Mt} (hi : Iv n M k A0 (rT A)) (hn : NI n A) (hkk : 1 ≤ A k k) : Iv n M (k + 1) A0 (rT (fwi n k A)) ∧ NI n (fwi n k A) := by
  have hP := Iv_S hk hi (le1_rv hkk)
  have hc : ∀ i, i < n → ¬ rp (A i k) (A k k) < A i k := by
    intro i hi'
    rcases rp_cases (NI_sml hn hi' hk) (NI_sml hn hk hk) with ⟨_, q⟩ | ⟨_, _, _, q⟩
    · rw [q]; have := (hn i k hi' hk).2; omega
    · rw [q]; unfold pz; omega
  have hr : ∀ j, j < n → ¬ rp (A k k) (A k j) < A k j := by
    intro j hj
    rcases rp_cases (NI_sml hn hk hk) (NI_sml hn hk hj) with ⟨_, q⟩ | ⟨_, _, _, q⟩
    · rw [q]; have := (hn k j hk hj).2; omega
    · rw [q]; unfold pz; omega
  have e : fwi n k A = fun x y => if x < n ∧ y < n then pvI k A x y else A x y := fwi_eq hk hn hc hr n (Nat.le_refl n)
  have ep : ∀ i j, i < n → j < n → fwi n k A i j = pvI k A i j := fun i j hi hj => by rw [e]; exact if_pos ⟨hi, hj⟩
  have eq : Eqn n (piv k (rT A)) (rT (fwi n k A)) := by
    intro i j hi' hj
    show bmn (rv (A i j)) (bad (rv (A i k)) (rv (A k j))) = rv (fwi n k A i j)
    rw [ep i j hi' hj]
    unfold pvI
    have hle := (hn i j hi' hj).2
    rcases rp_cases (NI_sml hn hi' hk) (NI_sml hn hk hj) with ⟨q1, q⟩ | ⟨q2, q3, q1, q⟩
    · rw [q1, q, if_neg (by omega)]
      rfl
    · rw [q1, q]
      by_cases hf : A i j < 1000000
      · rw [rv_s hf]
        show some (if pz (A i k) (A k j) < A i j then pz (A i k) (A k j) else A i j) = _
        rw [rv_s (by split <;> omega)]
      · have hs : pz (A i k) (A k j) < 1000000 := by
          obtain ⟨S, _, _, a3, _⟩ := Iv_sum hk hi (le1_rv hkk) hi' hj (x := A i k) (y := A k j) (rv_s q2) (rv_s q3) (by
            show ¬ ble (rv (A i j)) _
            rw [rv_n (by omega)]
            exact ble_ns)
          have := bm_le hM (show cnt (k + 1) S ≤ n from Nat.le_trans (cnt_le _ _) hk)
          omega
        rw [rv_n (by omega), if_pos (by omega), rv_s hs]
        rfl
  have hI := Iv_e (by omega : k + 1 ≤ n) eq hP
  refine ⟨hI, fun i j hi' hj => ?_⟩
  have hle : fwi n k A i j ≤ 1000000 := by
    rw [ep i j hi' hj]
    have := (hn i j hi' hj).2
    unfold pvI
    split <;> omega
  refine ⟨?_, hle⟩
  by_cases hf : fwi n k A i j < 1000000
  · have := (Iv_bnd hM hI hi' hj (x := fwi n k A i j) (rv_s hf)).1
    have := bm_le hM (show k + 1 ≤ n from hk)
    omega
  · omega
/-! entries only fall -/
theorem tg_le (A : Mt) (i j : Nat) (b : Int) (x y : Nat) : tg A i j b x y ≤ A x y := by
  unfold tg
  split
  · unfold um
    split
    · next h => rw [h.1, h.2]; omega
    · exact Int.le_refl _
  · exact Int.le_refl _
theorem itr_le {g : Nat → Mt → Mt} (h : ∀ i A x y, g i A x y ≤ A x y) (m : Nat) (A : Mt) (x y : Nat) : itr m g A x y ≤ A x y := by
  induction m with
  | zero => exact Int.le_refl _
  | succ m ih => exact Int.le_trans (h m _ x y) ih
theorem fwi_le (n k : Nat) (A : Mt) (x y : Nat) : fwi n k A x y ≤ A x y := by
  refine itr_le (fun i A x y => ?_) n A x y
  show (if 1000000 ≤ A i k then A else fwj n k i A) x y ≤ A x y
  split
  · exact Int.le_refl _
  · exact itr_le (fun j A x y => tg_le A i j _ x y) n A x y
/-- the reference's closing: nothing closed below and a diagonal fell, or the greatest closed table -/
theorem fw_gr {n : Nat} {M : Int} (hM : 0 ≤ M) (hb : bm M n ≤ 1000000) {A : Mt} (hA : Bb n M (rT A)) (hn : NI n A) (hd : ∀ i, i < n → A i i ≤ 1) : ((∃ i, i < n ∧ fw n A i i < 1) ∧ Vd n (rT A)) ∨ ((∀ i, i < n → 1 ≤ fw n A i i) ∧ Gr n (rT A) (rT (fw n A)) ∧ NI n (fw n A)) := by
  have h : ∀ k, k ≤ n → ((∃ i, i < n ∧ itr k (fun k A => fwi n k A) A i i < 1) ∧ Vd n (rT A)) ∨ (Iv n M k (rT A) (rT (itr k (fun k A => fwi n k A) A)) ∧ NI n (itr k (fun k A => fwi n k A) A)) := by
    intro k
    induction k with
    | zero => exact fun _ => Or.inr ⟨Iv_0 hA, hn⟩
    | succ k ih =>
      intro hk
      show ((∃ i, i < n ∧ fwi n k (itr k (fun k A => fwi n k A) A) i i < 1) ∧ Vd n (rT A)) ∨ (Iv n M (k + 1) (rT A) (rT (fwi n k (itr k (fun k A => fwi n k A) A))) ∧ NI n (fwi n k (itr k (fun k A => fwi n k A) A)))
      rcases ih (by omega) with ⟨⟨i, hi, h1⟩, h2⟩ | ⟨h1, h2⟩
      · refine Or.inl ⟨⟨i, hi, ?_⟩, h2⟩
        have := fwi_le n k (itr k (fun k A => fwi n k A) A) i i
        omega
      · by_cases hkk : 1 ≤ itr k (fun k A => fwi n k A) A k k
        · exact Or.inr (fwi_piv hk hM hb h1 h2 hkk)
        · refine Or.inl ⟨⟨k, hk, ?_⟩, Iv_void h1 hk (nle1_rv (by omega))⟩
          have := fwi_le n k (itr k (fun k A => fwi n k A) A) k k
          omega
  rcases h n (Nat.le_refl n) with q | ⟨q1, q2⟩
  · exact Or.inl q
  · refine Or.inr ⟨fun i hi => ?_, Iv_end q1 (fun i hi => ?_), q2⟩
    · have := q1.2.1 i hi hi
      have q : ¬ itr n (fun k A => fwi n k A) A i i < 1 := fun z => nle1_rv z this
      show 1 ≤ itr n (fun k A => fwi n k A) A i i
      omega
    · show ble (rv (A i i)) (some 1)
      have := hd i hi
      rw [rv_s (by omega)]
      exact this
theorem ngv_1 (n : Nat) (A : Mt) : ngv n A 1 = 1 := by
  unfold ngv
  induction n with
  | zero => rfl
  | succ n ih =>
    show (if A n n < 1 then 1 else itr n (fun i v => if A i i < 1 then 1 else v) 1) = (1 : Int)
    rw [ih]
    split <;> rfl
theorem ngv_ex {n : Nat} {A : Mt} {v : Int} (h : ∃ i, i < n ∧ A i i < 1) : ngv n A v = 1 := by
  unfold ngv
  induction n with
  | zero => obtain ⟨i, hi, _⟩ := h; omega
  | succ n ih =>
    show (if A n n < 1 then 1 else itr n (fun i v => if A i i < 1 then 1 else v) v) = (1 : Int)
    by_cases hq : A n n < 1
    · rw [if_pos hq]
    · rw [if_neg hq]
      obtain ⟨i, hi, h2⟩ := h
      exact ih ⟨i, by
        by_cases z : i = n
        · rw [z] at h2; exact absurd h2 hq
        · omega, h2⟩
theorem ngv_no {n : Nat} {A : Mt} {v : Int} (h : ∀ i, i < n → 1 ≤ A i i) : ngv n A v = v := by
  unfold ngv
  induction n with
  | zero => rfl
  | succ n ih =>
    show (if A n n < 1 then 1 else itr n (fun i v => if A i i < 1 then 1 else v) v) = v
    rw [if_neg (by have := h n (by omega); omega)]
    exact ih (fun i hi => h i (by omega))
/-- what the reference works on: closed, or nothing is left -/
def RS (n : Nat) (A : Bt) (q : Int × Mt) : Prop := (q.1 = 1 ∧ Vd n A) ∨ (q.1 = 0 ∧ Gr n A (rT q.2) ∧ NI n q.2)
theorem rcl_RS {n : Nat} {M : Int} (hM : 0 ≤ M) (hb : bm M n ≤ 1000000) {A : Mt} (hA : Bb n M (rT A)) (hn : NI n A) (hd : ∀ i, i < n → A i i ≤ 1) : RS n (rT A) (rcl n (0, A)) := by
  unfold rcl
  rcases fw_gr hM hb hA hn hd with ⟨h1, h2⟩ | ⟨h1, h2, h3⟩
  · exact Or.inl ⟨ngv_ex h1, h2⟩
  · exact Or.inr ⟨ngv_no h1, h2, h3⟩
theorem rcl_1 (n : Nat) (A : Mt) : (rcl n (1, A)).1 = 1 := ngv_1 n _
