/-! The class's tighten; rules of a list, in the class and in the reference. -/
def tkI (i j : Nat) (b : Int) (C : Mt) : Mt := fun k l => mn (C k l) (cp (cp (C k i) b) (C j l))
theorem ztl_eq (j k : Nat) (hd : Int) (C : Mt) : ∀ m, itr m (fun l C => um C k l (mn (C k l) (cp hd (C j l)))) C = fun x y => if x = k ∧ y < m then mn (C x y) (cp hd (C j y)) else C x y := by
  intro m
  induction m with
  | zero =>
    funext x y
    rw [if_neg (by omega)]
    rfl
  | succ m ih =>
    show (fun C : Mt => um C k m (mn (C k m) (cp hd (C j m)))) (itr m (fun l C => um C k l (mn (C k l) (cp hd (C j l)))) C) = _
    rw [ih]
    have e1 : (if k = k ∧ m < m then mn (C k m) (cp hd (C j m)) else C k m) = C k m := if_neg (by omega)
    have e2 : (if j = k ∧ m < m then mn (C j m) (cp hd (C j m)) else C j m) = C j m := if_neg (by omega)
    show um _ k m (mn (if k = k ∧ m < m then mn (C k m) (cp hd (C j m)) else C k m) (cp hd (if j = k ∧ m < m then mn (C j m) (cp hd (C j m)) else C j m))) = _
    rw [e1, e2]
    funext x y
    unfold um
    by_cases hx : x = k ∧ y = m
    · rw [if_pos hx, if_pos (by omega), hx.1, hx.2]
    · rw [if_neg hx]
      show (if x = k ∧ y < m then mn (C x y) (cp hd (C j y)) else C x y) = _
      by_cases hy : x = k ∧ y < m
      · rw [if_pos hy, if_pos (by omega)]
      · rw [if_neg hy, if_neg (by omega)]
theorem ztk_eq {n i j : Nat} (hi : i < n) {b : Int} {C : Mt} (hn : NC n C) (hr : ∀ l, l < n → tkI i j b C j l = C j l) : ∀ m, m ≤ n → itr m (fun k C => if 268435456 ≤ cp (C k i) b then C else ztl n j k (cp (C k i) b) C) C = fun x y => if x < m ∧ y < n then tkI i j b C x y else C x y := by
  intro m
  induction m with
  | zero =>
    intro _
    funext x y
    rw [if_neg (by omega)]
    rfl
  | succ m ih =>
    intro hm
    show (fun B : Mt => if 268435456 ≤ cp (B m i) b then B else ztl n j m (cp (B m i) b) B) (itr m (fun k C => if 268435456 ≤ cp (C k i) b then C else ztl n j k (cp (C k i) b) C) C) = _
    rw [ih (by omega)]
    have e1 : (if m < m ∧ i < n then tkI i j b C m i else C m i) = C m i := if_neg (by omega)
    have e2 : ∀ y, y < n → (if j < m ∧ y < n then tkI i j b C j y else C j y) = C j y := fun y hy => by
      split
      · exact hr y hy
      · rfl
    have e3 : ∀ y, (if m < m ∧ y < n then tkI i j b C m y else C m y) = C m y := fun y => if_neg (by omega)
    show (if 268435456 ≤ cp (if m < m ∧ i < n then tkI i j b C m i else C m i) b then _ else ztl n j m (cp (if m < m ∧ i < n then tkI i j b C m i else C m i) b) _) = _
    rw [e1]
    by_cases hf : 268435456 ≤ cp (C m i) b
    · rw [if_pos hf]
      funext x y
      by_cases hx : x < m ∧ y < n
      · rw [if_pos hx, if_pos (by omega)]
      · rw [if_neg hx]
        by_cases hy : x < m + 1 ∧ y < n
        · rw [if_pos hy]
          have ex : x = m := by omega
          rw [ex]
          show _ = mn (C m y) (cp (cp (C m i) b) (C j y))
          have hc : cp (cp (C m i) b) (C j y) = 268435456 := by
            unfold cp at hf ⊢
            rw [if_pos hf]
          rw [hc]
          unfold mn
          rw [if_neg (by have := (hn m y (by omega) hy.2).2; omega)]
        · rw [if_neg hy]
    · rw [if_neg hf]
      unfold ztl
      rw [ztl_eq]
      funext x y
      by_cases hx : x = m ∧ y < n
      · rw [if_pos hx, show (if x < m + 1 ∧ y < n then tkI i j b C x y else C x y) = tkI i j b C x y from if_pos (by omega), hx.1]
        show mn (if m < m ∧ y < n then tkI i j b C m y else C m y) (cp (cp (C m i) b) (if j < m ∧ y < n then tkI i j b C j y else C j y)) = tkI i j b C m y
        rw [e2 y hx.2, e3 y]
        rfl
      · rw [if_neg hx]
        by_cases hy : x < m ∧ y < n
        · rw [if_pos hy, if_pos (by omega)]
        · rw [if_neg hy, if_neg (by omega)]
theorem sml_le {M N : Int} (h : M ≤ N) {b : Bd} (hb : sml M b) : sml N b := fun x hx => by have := hb x hx; omega
theorem sml_bad {M N : Int} (hM : M + N ≤ 100000000) {a b : Bd} (ha : sml M a) (hb : sml N b) : sml 100000000 (bad a b) := by
  intro x hx
  cases h1 : a with
  | none => rw [h1] at hx; cases hx
  | some y =>
    cases h2 : b with
    | none => rw [h1, h2] at hx; cases hx
    | some z =>
      rw [h1, h2] at hx
      have hx : some (pz y z) = some x := hx
      have := Option.some.inj hx
      have := ha y h1
      have := hb z h2
      have := pz_lo y z
      omega
theorem cv_mn {a b : Int} (ha : a ≤ 268435456) : cv (mn a b) = bmn (cv a) (cv b) := by
  unfold mn
  by_cases h2 : 268435456 ≤ b
  · rw [cv_n h2, if_neg (by omega)]
    rfl
  · rw [cv_s (b := b) (by omega)]
    by_cases h1 : 268435456 ≤ a
    · rw [cv_n h1, if_pos (by omega), cv_s (by omega)]
      rfl
    · rw [cv_s (b := a) (by omega)]
      show _ = some (if b < a then b else a)
      rw [cv_s (by split <;> omega)]
theorem zt_CS {n i j : Nat} (hi : i < n) (hj : j < n) {M : Int} (hM : 0 ≤ M) (hb : bm M n ≤ 30000000) {A : Bt} (hA : Bb n M A) (hd : ∀ x, x < n → ble (A x x) (some 1)) {b : Int} (hbs : sml M (cv b)) (hM' : M ≤ 30000000) {q : Int × Mt} (h : CS n A q) : CS n (lowB i j (cv b) A) (zt n i j b q.1 q.2) := by
  obtain ⟨v, C⟩ := q
  rcases h with ⟨h1, h2⟩ | ⟨h1, h2, h3⟩
  · have e : v = 1 := h1
    subst e
    unfold zt
    rw [if_pos (show ¬ ((1 : Int) = 0) by decide)]
    exact Or.inl ⟨rfl, fun D hD hB => h2 D hD ((Bl_low hi hj).1 hB).1⟩
  · have e : v = 0 := h1
    subst e
    have h2 : Gr n A (cT C) := h2
    have h3 : NC n C := h3
    have hB : Bb n 30000000 (cT C) := Bb_le hb (Gr_bb hM hA hd h2)
    have hs : Sm n (lowB i j (cv b) (cT C)) (lowB i j (cv b) A) := Sm_low hi hj (Sm_gr h2)
    have hbs' : sml 30000000 (cv b) := sml_le hM' hbs
    unfold zt
    rw [if_neg (fun z => z rfl)]
    by_cases hlt : b < C i j
    · show CS n _ (if b < C i j then (if 1 ≤ cp b (C j i) then ((0 : Int), ztk n i j b C) else (1, C)) else (0, C))
      rw [if_pos hlt]
      have hji : cv (cp b (C j i)) = bad (cv b) (cT C j i) := cp_bad (sml_le (by decide) hbs') (sml_le (by decide) (Bb_sml hB hj hi))
      by_cases h1' : 1 ≤ cp b (C j i)
      · rw [if_pos h1']
        have hp : ble (some 1) (bad (cv b) (cT C j i)) := by rw [← hji]; exact le1_cv h1'
        have hr : ∀ l, l < n → tkI i j b C j l = C j l := by
          intro l hl
          show mn (C j l) (cp (cp (C j i) b) (C j l)) = C j l
          have e1 : cv (cp (C j i) b) = bad (cT C j i) (cv b) := cp_bad (sml_le (by decide) (Bb_sml hB hj hi)) (sml_le (by decide) hbs')
          have e2 : sml 100000000 (cv (cp (C j i) b)) := by rw [e1]; exact sml_bad (by decide) (Bb_sml hB hj hi) hbs'
          rw [bad_c, hji.symm] at e1
          unfold mn
          rcases cp_cases e2 (sml_le (by decide) (Bb_sml hB hj hl) : sml 100000000 (cv (C j l))) with ⟨_, z⟩ | ⟨z1, z2, _, z, _⟩
          · rw [z, if_neg (by have := (h3 j l hj hl).2; omega)]
          · rw [z]
            have : 1 ≤ cp (C j i) b := by
              have := le1_cv h1'
              rw [← e1, cv_s z1] at this
              exact this
            rw [if_neg (by unfold pz; omega)]
        have e : ztk n i j b C = fun x y => if x < n ∧ y < n then tkI i j b C x y else C x y := ztk_eq hi h3 hr n (Nat.le_refl n)
        have ep : ∀ x y, x < n → y < n → ztk n i j b C x y = tkI i j b C x y := fun x y hx hy => by rw [e]; exact if_pos ⟨hx, hy⟩
        have eq : Eqn n (tik i j (cv b) (cT C)) (cT (ztk n i j b C)) := by
          intro x y hx hy
          show bmn (cv (C x y)) (bad (bad (cv (C x i)) (cv b)) (cv (C j y))) = cv (ztk n i j b C x y)
          rw [ep x y hx hy]
          show _ = cv (mn (C x y) (cp (cp (C x i) b) (C j y)))
          have e1 : cv (cp (C x i) b) = bad (cT C x i) (cv b) := cp_bad (sml_le (by decide) (Bb_sml hB hx hi)) (sml_le (by decide) hbs')
          have e2 : sml 100000000 (cv (cp (C x i) b)) := by rw [e1]; exact sml_bad (by decide) (Bb_sml hB hx hi) hbs'
          rw [cv_mn (h3 x y hx hy).2.1, cp_bad e2 (sml_le (by decide) (Bb_sml hB hj hy)), e1]
          rfl
        have hg : Gr n (lowB i j (cv b) A) (cT (ztk n i j b C)) := Gr_sm hs (Gr_e eq (tik_gr hi hj h2.1 hp))
        refine Or.inr ⟨rfl, hg, fun x y hx hy => ?_⟩
        have hB2 : Bb n 30000000 (cT (ztk n i j b C)) := Bb_le hb (Gr_bb hM (Bb_low hA hbs) (lowB_diag hd) hg)
        have hle : ztk n i j b C x y ≤ C x y := by
          rw [ep x y hx hy]
          show mn _ _ ≤ _
          unfold mn
          split <;> omega
        have hc := h3 x y hx hy
        show -100000000 < ztk n i j b C x y ∧ ztk n i j b C x y ≤ 268435456 ∧ (ztk n i j b C x y < 100000000 ∨ ztk n i j b C x y = 268435456)
        by_cases hf : ztk n i j b C x y < 268435456
        · have := hB2 x y _ hx hy (cv_s hf)
          exact ⟨by omega, by omega, Or.inl (by omega)⟩
        · exact ⟨by omega, by omega, Or.inr (by omega)⟩
      · rw [if_neg h1']
        refine Or.inl ⟨rfl, Vd_sm hs (tik_vd hi hj (C := cT C) ?_)⟩
        rw [← hji]
        exact nle1_cv (by omega)
    · show CS n _ (if b < C i j then (if 1 ≤ cp b (C j i) then ((0 : Int), ztk n i j b C) else (1, C)) else (0, C))
      rw [if_neg hlt]
      refine Or.inr ⟨rfl, Gr_sm hs (tik_no hi hj h2.1 ?_), h3⟩
      show ble (cv (C i j)) (cv b)
      by_cases hf : 268435456 ≤ b
      · rw [cv_n hf]; exact trivial
      · rw [cv_s (b := b) (by omega), cv_s (by omega)]
        show C i j ≤ b
        omega
/-! what a rule says -/
def ru (rel x : Int) : Bd := if rel = 0 then some (2 * x) else if rel = 1 ∨ rel = 2 then some (2 * x + 1) else none
def rl (rel x : Int) : Bd := if rel = 4 then some (-2 * x) else if rel = 3 ∨ rel = 2 then some (-2 * x + 1) else none
theorem cv_up {rel x : Int} (h : -1000 ≤ x ∧ x ≤ 1000) : cv (upB rel x) = ru rel x := by
  unfold upB ru
  split
  · rw [ls_id (by omega), cv_s (by omega)]
  · split
    · rw [am_id (by omega), cv_s (by omega)]
    · rw [cv_n (by decide)]
theorem cv_lo {rel x : Int} (h : -1000 ≤ x ∧ x ≤ 1000) : cv (loB rel x) = rl rel x := by
  unfold loB rl
  rw [w_id (by omega)]
  split
  · rw [ls_id (by omega), cv_s (by omega)]
    congr 1
    omega
  · split
    · rw [am_id (by omega), cv_s (by omega)]
      congr 1
      omega
    · rw [cv_n (by decide)]
theorem sml_ru {rel x M : Int} (h : -1000 ≤ x ∧ x ≤ 1000) (hM : 2 * x < M - 1 ∧ -M < 2 * x) : sml M (ru rel x) := by
  intro y hy
  unfold ru at hy
  split at hy
  · have := Option.some.inj hy; omega
  · split at hy
    · have := Option.some.inj hy; omega
    · cases hy
theorem sml_rl {rel x M : Int} (h : -1000 ≤ x ∧ x ≤ 1000) (hM : 2 * x < M ∧ -M < 2 * x - 1) : sml M (rl rel x) := by
  intro y hy
  unfold rl at hy
  split at hy
  · have := Option.some.inj hy; omega
  · split at hy
    · have := Option.some.inj hy; omega
    · cases hy
/-- x less y is REL n -/
def lowR (i j : Nat) (rel x : Int) (A : Bt) : Bt := lowB j i (rl rel x) (lowB i j (ru rel x) A)
theorem Sm_lowR {n i j : Nat} (hi : i < n) (hj : j < n) {rel x : Int} {A B : Bt} (h : Sm n A B) : Sm n (lowR i j rel x A) (lowR i j rel x B) := Sm_low hj hi (Sm_low hi hj h)
theorem Bb_lowR {n i j : Nat} {M rel x : Int} (hx : -1000 ≤ x ∧ x ≤ 1000) (hM : 2 * x < M - 1 ∧ -M < 2 * x - 1) {A : Bt} (h : Bb n M A) : Bb n M (lowR i j rel x A) := Bb_low (Bb_low h (sml_ru hx (by omega))) (sml_rl hx (by omega))
theorem zt2_CS {n i j : Nat} (hi : i < n) (hj : j < n) {M : Int} (hb : bm M n ≤ 30000000) (hM' : M ≤ 30000000) {A : Bt} (hA : Bb n M A) (hd : ∀ x, x < n → ble (A x x) (some 1)) {rel x : Int} (hx : -1000 ≤ x ∧ x ≤ 1000) (hM : 0 ≤ M ∧ 2 * x < M - 1 ∧ -M < 2 * x - 1) {q : Int × Mt} (h : CS n A q) : CS n (lowR i j rel x A) (zt n j i (loB rel x) (zt n i j (upB rel x) q.1 q.2).1 (zt n i j (upB rel x) q.1 q.2).2) := by
  have h1 := zt_CS (b := upB rel x) hi hj hM.1 hb hA hd (by rw [cv_up hx]; exact sml_ru hx (by omega)) hM' h
  rw [cv_up hx] at h1
  have h2 := zt_CS (b := loB rel x) hj hi hM.1 hb (Bb_low hA (sml_ru hx (by omega))) (lowB_diag hd) (by rw [cv_lo hx]; exact sml_rl hx (by omega)) hM' h1
  rw [cv_lo hx] at h2
  exact h2
/-- rules of a list: clocks, rels, numbers -/
def lowL (m : Nat) (cl re nu : Nat → Int) (A : Bt) : Bt := itr m (fun k A => lowR ((cl k).toNat + 1) 0 (re k) (nu k) A) A
def okL (n m : Nat) (cl re nu : Nat → Int) : Prop := ∀ k, k < m → 0 ≤ cl k ∧ (cl k).toNat + 1 < n ∧ 0 ≤ re k ∧ re k ≤ 4 ∧ 0 ≤ nu k ∧ nu k ≤ 50
theorem lowR_diag {n i j : Nat} {rel x : Int} {A : Bt} (h : ∀ x, x < n → ble (A x x) (some 1)) : ∀ y, y < n → ble (lowR i j rel x A y y) (some 1) := lowB_diag (lowB_diag h)
theorem lowL_ok {n m : Nat} {cl re nu : Nat → Int} {M : Int} (hM : 102 ≤ M) {A : Bt} (ho : okL n m cl re nu) (hA : Bb n M A) (hd : ∀ x, x < n → ble (A x x) (some 1)) : Bb n M (lowL m cl re nu A) ∧ ∀ x, x < n → ble (lowL m cl re nu A x x) (some 1) := by
  induction m with
  | zero => exact ⟨hA, hd⟩
  | succ m ih =>
    obtain ⟨h1, h2⟩ := ih (fun k hk => ho k (by omega))
    have := ho m (by omega)
    exact ⟨Bb_lowR (by omega) (by omega) h1, lowR_diag h2⟩
theorem Sm_lowL {n m : Nat} {cl re nu : Nat → Int} {A B : Bt} (ho : okL n m cl re nu) (h : Sm n A B) : Sm n (lowL m cl re nu A) (lowL m cl re nu B) := by
  induction m with
  | zero => exact h
  | succ m ih =>
    have := ho m (by omega)
    exact Sm_lowR this.2.1 (by omega) (ih (fun k hk => ho k (by omega)))
theorem zkr_CS {n l m p : Nat} {f : mj_F} {M : Int} (hM : 102 ≤ M) (hb : bm M n ≤ 30000000) (hM' : M ≤ 30000000) {A : Bt} (ho : okL n m (fun k => f (p + 5) (6 * l + k)) (fun k => f (p + 6) (6 * l + k)) (fun k => f (p + 7) (6 * l + k))) (hA : Bb n M A) (hd : ∀ x, x < n → ble (A x x) (some 1)) {q : Int × Mt} (h : CS n A q) : CS n (lowL m (fun k => f (p + 5) (6 * l + k)) (fun k => f (p + 6) (6 * l + k)) (fun k => f (p + 7) (6 * l + k)) A) (zkr f p n l m q) := by
  induction m with
  | zero => exact h
  | succ m ih =>
    have h1 := ih (fun k hk => ho k (by omega))
    obtain ⟨h2, h3⟩ := lowL_ok (m := m) hM (fun k hk => ho k (by omega)) hA hd
    have t : 0 ≤ f (p + 5) (6 * l + m) ∧ (f (p + 5) (6 * l + m)).toNat + 1 < n ∧ 0 ≤ f (p + 6) (6 * l + m) ∧ f (p + 6) (6 * l + m) ≤ 4 ∧ 0 ≤ f (p + 7) (6 * l + m) ∧ f (p + 7) (6 * l + m) ≤ 50 := ho m (by omega)
    exact zt2_CS (i := (f (p + 5) (6 * l + m)).toNat + 1) (j := 0) (rel := f (p + 6) (6 * l + m)) (x := f (p + 7) (6 * l + m)) t.2.1 (by omega) hb hM' h2 h3 (by omega) (by omega) h1
/-! in the reference -/
theorem rv_tg {A : Mt} {i j : Nat} {b : Int} (hb : b < 1000000) : rT (tg A i j b) = lowB i j (some b) (rT A) := by
  funext k l
  unfold tg lowB rT
  by_cases hkl : k = i ∧ l = j
  · rw [if_pos hkl, hkl.1, hkl.2]
    by_cases h : b < A i j
    · rw [if_pos h]
      unfold um
      rw [if_pos ⟨rfl, rfl⟩, rv_s hb]
      by_cases h2 : 1000000 ≤ A i j
      · rw [rv_n h2]; rfl
      · rw [rv_s (b := A i j) (by omega)]
        show _ = some (if b < A i j then b else A i j)
        rw [if_pos h]
    · rw [if_neg h, rv_s (b := A i j) (by omega)]
      show _ = some (if b < A i j then b else A i j)
      rw [if_neg h]
  · rw [if_neg hkl]
    by_cases h : b < A i j
    · rw [if_pos h]
      unfold um
      rw [if_neg hkl]
    · rw [if_neg h]
theorem rT_rmt {A : Mt} {i j : Nat} {rel x : Int} (h0 : 0 ≤ rel ∧ rel ≤ 4) (hx : -1000 ≤ x ∧ x ≤ 1000) : rT (rmt i j rel x A) = lowR i j rel x (rT A) := by
  unfold rmt lowR ru rl
  rw [am_id (n := x) (by omega), w_id (a := -x) (by omega), am_id (n := -x) (by omega), w_id (a := 2 * x) (by omega), w_id (a := (-2) * x) (by omega)]
  have e : 2 * (-x) + 1 = -2 * x + 1 := by omega
  rw [e]
  have hc : rel = 0 ∨ rel = 1 ∨ rel = 2 ∨ rel = 3 ∨ rel = 4 := by omega
  rcases hc with rfl | rfl | rfl | rfl | rfl
  · simp [lowB_none]; rw [rv_tg (by omega)]
  · simp [lowB_none]; rw [rv_tg (by omega)]
  · simp; rw [rv_tg (by omega), rv_tg (by omega)]
  · simp [lowB_none]; rw [rv_tg (by omega)]
  · simp [lowB_none]; rw [rv_tg (by omega)]
theorem rT_rwh {f : mj_F} {l n m : Nat} {A : Mt} (ho : okL n m (fun k => f 225 (6 * l + k)) (fun k => f 226 (6 * l + k)) (fun k => f 227 (6 * l + k))) : rT (rwh f l m A) = lowL m (fun k => f 225 (6 * l + k)) (fun k => f 226 (6 * l + k)) (fun k => f 227 (6 * l + k)) (rT A) := by
  induction m with
  | zero => rfl
  | succ m ih =>
    have h1 := ih (fun k hk => ho k (by omega))
    have t : 0 ≤ f 225 (6 * l + m) ∧ (f 225 (6 * l + m)).toNat + 1 < n ∧ 0 ≤ f 226 (6 * l + m) ∧ f 226 (6 * l + m) ≤ 4 ∧ 0 ≤ f 227 (6 * l + m) ∧ f 227 (6 * l + m) ≤ 50 := ho m (by omega)
    show rT (rmt _ 0 _ _ (rwh f l m A)) = lowR _ 0 _ _ (lowL m _ _ _ (rT A))
    rw [rT_rmt (by omega) (by omega), h1]
