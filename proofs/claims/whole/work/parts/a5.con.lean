/-! Cells are made, one behind another: the world while the constructors run. -/
/-- from which index on a cell's references are still wanting -/
def pdB (l : List (Nat × Nat)) (x y : Nat) : Bool := l.any (fun e => e.1 == x && decide (e.2 ≤ y))
/-- the first cells, up to n -/
def wCn (L n s : Nat) (l : List (Nat × Nat)) : mj_W := (fun a => if a = 1 then (104, L) else if 2 ≤ a ∧ a < n then wk_k.getD a (0, 0) else (200, 0), fun a k => if 2 ≤ a ∧ a < n ∧ pdB l a k = false then wk_ref false a k else 0, n, s)
theorem wk_len : (wk_r.all fun e => decide (e.2.length ≤ 70)) = true := by decide +kernel
theorem wk_big {x y : Nat} (h : wk_ref false x y ≠ 0) : y < 70 := by
  refine Classical.byContradiction fun hy => h ?_
  unfold wk_ref
  rw [if_neg (by omega), if_neg (by omega)]
  cases hq : mj_look wk_r x with
  | none => rfl
  | some r =>
    have hm := mj_look_mem _ _ _ hq
    have := of_decide_eq_true (List.all_eq_true.mp wk_len _ hm)
    show r.getD y 0 = 0
    rw [List.getD_eq_getElem?_getD, List.getElem?_eq_none (by have : r.length ≤ 70 := this; omega)]
    rfl
theorem pdB_no {l : List (Nat × Nat)} {x y : Nat} (h : x ∉ l.map (fun e => e.1)) : pdB l x y = false := by
  unfold pdB
  rw [List.any_eq_false]
  intro e he hq
  simp only [Bool.and_eq_true, beq_iff_eq, decide_eq_true_eq] at hq
  exact h (List.mem_map.mpr ⟨e, he, hq.1⟩)
def okU (l l' : List (Nat × Nat)) (a k : Nat) : Bool := (l.map (fun e => e.1) ++ (l'.map (fun e => e.1) ++ [a])).all (fun x => (List.range 70).all (fun y => decide (wk_ref false x y = 0) || (pdB l' x y == (pdB l x y && !(x == a && y == k)))))
theorem okU_of {l l' : List (Nat × Nat)} {a k : Nat} (h : okU l l' a k = true) (x y : Nat) (hy : wk_ref false x y ≠ 0) : pdB l' x y = (pdB l x y && !(x == a && y == k)) := by
  by_cases hx : x ∈ l.map (fun e => e.1) ++ (l'.map (fun e => e.1) ++ [a])
  · have h1 := List.all_eq_true.mp (List.all_eq_true.mp h x hx) y (List.mem_range.mpr (wk_big hy))
    simp only [Bool.or_eq_true, decide_eq_true_eq, beq_iff_eq] at h1
    rcases h1 with h1 | h1
    · exact absurd h1 hy
    · exact h1
  · have h1 : x ∉ l.map (fun e => e.1) := fun z => hx (List.mem_append_left _ z)
    have h2 : x ∉ l'.map (fun e => e.1) := fun z => hx (List.mem_append_right _ (List.mem_append_left _ z))
    rw [pdB_no h1, pdB_no h2]
    rfl
def okN (l l' : List (Nat × Nat)) (n : Nat) : Bool := (l.map (fun e => e.1) ++ (l'.map (fun e => e.1) ++ [n])).all (fun x => (List.range 70).all (fun y => decide (wk_ref false x y = 0) || (if x == n then pdB l' x y else (pdB l' x y == pdB l x y))))
theorem okN_of {l l' : List (Nat × Nat)} {n : Nat} (h : okN l l' n = true) (x y : Nat) (hy : wk_ref false x y ≠ 0) : (x = n → pdB l' x y = true) ∧ (x ≠ n → pdB l' x y = pdB l x y) := by
  by_cases hx : x ∈ l.map (fun e => e.1) ++ (l'.map (fun e => e.1) ++ [n])
  · have h1 := List.all_eq_true.mp (List.all_eq_true.mp h x hx) y (List.mem_range.mpr (wk_big hy))
    simp only [Bool.or_eq_true, decide_eq_true_eq] at h1
    rcases h1 with h1 | h1
    · exact absurd h1 hy
    · by_cases z : x = n
      · subst z
        rw [if_pos (beq_self_eq_true x)] at h1
        exact ⟨fun _ => h1, fun z => absurd rfl z⟩
      · rw [if_neg (fun q => z (beq_iff_eq.mp q))] at h1
        exact ⟨fun q => absurd q z, fun _ => beq_iff_eq.mp h1⟩
  · have h1 : x ∉ l.map (fun e => e.1) := fun z => hx (List.mem_append_left _ z)
    have h2 : x ∉ l'.map (fun e => e.1) := fun z => hx (List.mem_append_right _ (List.mem_append_left _ z))
    have h3 : x ≠ n := fun z => hx (List.mem_append_right _ (List.mem_append_right _ (List.mem_singleton.mpr z)))
    rw [pdB_no h1, pdB_no h2]
    exact ⟨fun z => absurd z h3, fun _ => rfl⟩
section WB
variable {L n s z a k v : Nat} {l l' : List (Nat × Nat)} {t : Nat × Nat}
theorem wCn_ug (h2 : 2 ≤ a) (hn : a < n) (hv : wk_ref false a k = v) (h : ∀ x y, wk_ref false x y ≠ 0 → pdB l' x y = (pdB l x y && !(x == a && y == k))) : mj_ug (wCn L n s l) a k v = wCn L n s l' := by
  refine Prod.ext rfl (Prod.ext (funext fun x => funext fun y => ?_) rfl)
  show (if x = a ∧ y = k then v else (if 2 ≤ x ∧ x < n ∧ pdB l x y = false then wk_ref false x y else 0)) = if 2 ≤ x ∧ x < n ∧ pdB l' x y = false then wk_ref false x y else 0
  by_cases h0 : wk_ref false x y = 0
  · by_cases e : x = a ∧ y = k
    · rw [if_pos e, ← hv, ← e.1, ← e.2, h0, ite_self]
    · rw [if_neg e, h0, ite_self, ite_self]
  · have hh := h x y h0
    by_cases e : x = a ∧ y = k
    · rw [if_pos e]
      have hp : pdB l' x y = false := by rw [hh, e.1, e.2]; simp
      rw [if_pos ⟨by omega, by omega, hp⟩, e.1, e.2, hv]
    · rw [if_neg e]
      have hb : (x == a && y == k) = false := by
        rw [Bool.and_eq_false_iff]
        by_cases q : x = a
        · right
          exact beq_eq_false_iff_ne.mpr (fun q2 => e ⟨q, q2⟩)
        · left
          exact beq_eq_false_iff_ne.mpr q
      rw [hb] at hh
      simp only [Bool.not_false, Bool.and_true] at hh
      rw [hh]
theorem wCn_new (h2 : 2 ≤ n) (ht : wk_k.getD n (0, 0) = t) (h : ∀ x y, wk_ref false x y ≠ 0 → (x = n → pdB l' x y = true) ∧ (x ≠ n → pdB l' x y = pdB l x y)) : mj_new (wCn L n s l) t z = wCn L (n + 1) (s + z) l' := by
  refine Prod.ext (funext fun x => ?_) (Prod.ext (funext fun x => funext fun y => ?_) rfl)
  · show (if x = n then t else if x = 1 then (104, L) else if 2 ≤ x ∧ x < n then wk_k.getD x (0, 0) else (200, 0)) = if x = 1 then (104, L) else if 2 ≤ x ∧ x < n + 1 then wk_k.getD x (0, 0) else (200, 0)
    by_cases e : x = n
    · rw [if_pos e, if_neg (by omega), if_pos (by omega), e, ht]
    · rw [if_neg e]
      by_cases e1 : x = 1
      · rw [if_pos e1, if_pos e1]
      · rw [if_neg e1, if_neg e1]
        by_cases e2 : 2 ≤ x ∧ x < n
        · rw [if_pos e2, if_pos (by omega)]
        · rw [if_neg e2, if_neg (by omega)]
  · show (if x = n then 0 else (if 2 ≤ x ∧ x < n ∧ pdB l x y = false then wk_ref false x y else 0)) = if 2 ≤ x ∧ x < n + 1 ∧ pdB l' x y = false then wk_ref false x y else 0
    by_cases h0 : wk_ref false x y = 0
    · rw [h0, ite_self, ite_self, ite_self]
    · have hh := h x y h0
      by_cases e : x = n
      · rw [if_pos e, if_neg (fun q => by rw [hh.1 e] at q; exact absurd q.2.2 (by decide))]
      · rw [if_neg e, hh.2 e]
        by_cases e2 : 2 ≤ x ∧ x < n ∧ pdB l x y = false
        · rw [if_pos e2, if_pos ⟨e2.1, by omega, e2.2.2⟩]
        · rw [if_neg e2, if_neg (fun q => e2 ⟨q.1, by omega, q.2.2⟩)]
theorem wCn_e (h : ∀ x y, wk_ref false x y ≠ 0 → pdB l' x y = pdB l x y) : wCn L n s l = wCn L n s l' := by
  refine Prod.ext rfl (Prod.ext (funext fun x => funext fun y => ?_) rfl)
  show (if 2 ≤ x ∧ x < n ∧ pdB l x y = false then wk_ref false x y else 0) = if 2 ≤ x ∧ x < n ∧ pdB l' x y = false then wk_ref false x y else 0
  by_cases h0 : wk_ref false x y = 0
  · rw [h0, ite_self, ite_self]
  · rw [h x y h0]
theorem wCn_k (h2 : 2 ≤ a) (hn : a < n) : (wCn L n s l).1 a = wk_k.getD a (0, 0) := by
  show (if a = 1 then (104, L) else if 2 ≤ a ∧ a < n then wk_k.getD a (0, 0) else (200, 0)) = _
  rw [if_neg (by omega), if_pos ⟨h2, hn⟩]
theorem wCn_r (h2 : 2 ≤ a) (hn : a < n) (hp : pdB l a k = false) : (wCn L n s l).2.1 a k = wk_ref false a k := by
  show (if 2 ≤ a ∧ a < n ∧ pdB l a k = false then wk_ref false a k else 0) = _
  rw [if_pos ⟨h2, hn, hp⟩]
end WB
section MC
variable {y : Nat} {w w' : mj_W} {f f' : mj_F} {pc p' : Nat} {ls ls' st st' : List mj_V} {X : Option mj_O} {L n s z : Nat} {l l' : List (Nat × Nat)}
theorem ms_runI {i : Instr} (d : mj_dec y pc = some i) (hi : mj_imp y = true) (he : mj_end y i w st = none) (hc : mj_callee y i w st = none) (hs : mj_stp y i w f pc ls st = some (w', f', p', ls', st')) (h : mj_run y w' f' p' ls' st' = X) : mj_run y w f pc ls st = X :=
  (mj_run_step (by unfold mj_nx; rw [d]; dsimp only; rw [if_pos (Or.inl hi), he, hc, hs])).trans h
theorem mc_obj {idx x q a : Nat} (d : mj_dec y pc = some (.invokespecial idx) ∧ mj_cl2 (mj_cn y) idx = some (6, x, q)) (hp : pc + 3 = p') (hl : mj_low st = true) (h : mj_run y w f p' ls st = X) : mj_run y w f pc ls (.inr (.inl a) :: st) = X := by
  obtain ⟨d, hq⟩ := d
  subst hp
  refine ms_run d rfl rfl (by simp only [mj_callee, hq]) ?_ h
  simp only [mj_stp, mj_spec, hq]
  rw [if_pos hl]
theorem mc_new {idx ci q : Nat} (d : (mj_dec y pc = some (.new idx) ∧ mj_cl2 (mj_cn y) idx = some (9, ci, q)) ∧ (ci < 10 ∧ mj_nf ci = z ∧ mj_imp y = true) ∧ wk_k.getD n (0, 0) = (ci, 0) ∧ 2 ≤ n) (hl : ∀ x y, wk_ref false x y ≠ 0 → (x = n → pdB l' x y = true) ∧ (x ≠ n → pdB l' x y = pdB l x y)) (hp : pc + 3 = p') (h : mj_run y (wCn L (n + 1) (s + z) l') (mj_z f n) p' ls (.inr (.inl n) :: st) = X) : mj_run y (wCn L n s l) f pc ls st = X := by
  obtain ⟨⟨d, hq⟩, ⟨hc, hz, hi⟩, hk, h2⟩ := d
  subst hp
  refine ms_runI d hi (by cases st <;> simp only [mj_end, hq]) rfl ?_ h
  simp only [mj_stp, mj_newo, hq]
  rw [if_pos hc, hz, wCn_new h2 hk hl]
  rfl
theorem mc_newa {at_ : ArrayType} {kd m : Nat} {x : Int} (d : mj_dec y pc = some (.newarray at_) ∧ (at_ = .int ∧ kd = 100 ∨ at_ = .byte ∧ kd = 101 ∨ at_ = .long ∧ kd = 103) ∧ mj_imp y = true ∧ wk_k.getD n (0, 0) = (kd, m) ∧ 2 ≤ n) (hx : x = (m : Int) ∧ m < 1000000) (hl : ∀ x y, wk_ref false x y ≠ 0 → (x = n → pdB l' x y = true) ∧ (x ≠ n → pdB l' x y = pdB l x y)) (hp : pc + 2 = p') (h : mj_run y (wCn L (n + 1) (s + m) l') (mj_z f n) p' ls (.inr (.inl n) :: st) = X) : mj_run y (wCn L n s l) f pc ls (.inl x :: st) = X := by
  obtain ⟨d, ha, hi, hk, h2⟩ := d
  obtain ⟨rfl, hm⟩ := hx
  subst hp
  have e : mj_stp y (.newarray at_) (wCn L n s l) f pc ls (.inl (m : Int) :: st) = some (wCn L (n + 1) (s + m) l', mj_z f n, pc + 2, ls, .inr (.inl n) :: st) := by
    rcases ha with ⟨rfl, rfl⟩ | ⟨rfl, rfl⟩ | ⟨rfl, rfl⟩ <;>
    · simp only [mj_stp, mj_newa]
      rw [if_pos ⟨by omega, by omega⟩, Int.toNat_natCast, wCn_new h2 hk hl]
      rfl
  exact ms_runI d hi rfl rfl e h
theorem mc_anew {idx q m : Nat} {x : Int} (d : mj_dec y pc = some (.anewarray idx) ∧ mj_cl2 (mj_cn y) idx = some (9, 7, q) ∧ mj_imp y = true ∧ wk_k.getD n (0, 0) = (102, m) ∧ 2 ≤ n) (hx : x = (m : Int) ∧ m < 1000000) (hl : ∀ x y, wk_ref false x y ≠ 0 → (x = n → pdB l' x y = true) ∧ (x ≠ n → pdB l' x y = pdB l x y)) (hp : pc + 3 = p') (h : mj_run y (wCn L (n + 1) (s + m) l') (mj_z f n) p' ls (.inr (.inl n) :: st) = X) : mj_run y (wCn L n s l) f pc ls (.inl x :: st) = X := by
  obtain ⟨d, hq, hi, hk, h2⟩ := d
  obtain ⟨rfl, hm⟩ := hx
  subst hp
  refine ms_runI d hi rfl rfl ?_ h
  simp only [mj_stp, mj_anew, hq, mj_newa]
  rw [if_pos ⟨by omega, by omega⟩, Int.toNat_natCast, wCn_new h2 hk hl]
  rfl
theorem mc_putr {idx ci k q a v : Nat} (d : mj_dec y pc = some (.putfield idx) ∧ mj_fl (mj_cn y) idx = some (ci, k, q) ∧ mj_kind ci k = 2 ∧ mj_mayPut y ci k = true ∧ mj_imp y = true) (hk : wk_k.getD a (0, 0) = (ci, 0) ∧ wk_ref false a k = v) (ha : 2 ≤ a ∧ a < n ∧ 2 ≤ v) (hl : ∀ x y, wk_ref false x y ≠ 0 → pdB l' x y = (pdB l x y && !(x == a && y == k))) (hp : pc + 3 = p') (h : mj_run y (wCn L n s l') f p' ls st = X) : mj_run y (wCn L n s l) f pc ls (.inr (.inl v) :: .inr (.inl a) :: st) = X := by
  refine ms_putr d hp ((wCn_k ha.1 ha.2.1).trans hk.1) ha.2.2 ?_
  rw [wCn_ug ha.1 ha.2.1 hk.2 hl]
  exact h
theorem mc_aast {a k v m : Nat} (d : mj_dec y pc = some .aastore ∧ mj_imp y = true) (hk : wk_k.getD a (0, 0) = (102, m) ∧ wk_ref false a k = v ∧ wk_k.getD v (0, 0) = (7, 0)) (ha : (2 ≤ a ∧ a < n) ∧ (2 ≤ v ∧ v < n) ∧ k < m) (hl : ∀ x y, wk_ref false x y ≠ 0 → pdB l' x y = (pdB l x y && !(x == a && y == k))) (hp : pc + 1 = p') (h : mj_run y (wCn L n s l') f p' ls st = X) : mj_run y (wCn L n s l) f pc ls (.inr (.inl v) :: .inl (k : Int) :: .inr (.inl a) :: st) = X := by
  obtain ⟨d, hi⟩ := d
  subst hp
  have e1 : (wCn L n s l).1 a = (102, m) := (wCn_k ha.1.1 ha.1.2).trans hk.1
  have e2 : (wCn L n s l).1 v = (7, 0) := (wCn_k ha.2.1.1 ha.2.1.2).trans hk.2.2
  refine ms_runI d hi rfl rfl ?_ h
  simp only [mj_stp, mj_aast]
  rw [if_pos ⟨by rw [e1], ⟨by omega, by rw [e1]; show (k : Int) < (m : Int); omega⟩, e2⟩, Int.toNat_natCast, wCn_ug ha.1.1 ha.1.2 hk.2.1 hl]
/-- a constructor is called -/
theorem mc_ctor {idx cy kd q a : Nat} {w1 : mj_W} {f1 : mj_F} (d : mj_dec y pc = some (.invokespecial idx) ∧ mj_cl2 (mj_cn y) idx = some (kd, cy, q) ∧ (kd = 4 ∨ kd = 5) ∧ mj_lev cy < mj_lev y ∧ mj_ar cy = 1 ∧ mj_imp y = true) (hw : w.1 a = (mj_cn cy, 0)) (hl : mj_low st = true) (hp : pc + 3 = p') (hc : mj_call cy w f [.inr (.inl a)] = some (w1, f1, none)) (h : mj_run y w1 f1 p' ls st = X) : mj_run y w f pc ls (.inr (.inl a) :: st) = X := by
  obtain ⟨d, hq, hk, hlev, har, hi⟩ := d
  subst hp
  have hargs : mj_args w (.inr (.inl a) :: st) cy true = some (cy, [.inr (.inl a)], st, 0) := by
    unfold mj_args
    rw [har]
    rw [if_pos ⟨by simp, hl, rfl⟩]
    show (if w.1 a = (mj_cn cy, 0) then some (cy, ([.inr (.inl a)] : List mj_V), st, 0) else none) = some (cy, ([.inr (.inl a)] : List mj_V), st, 0)
    rw [if_pos hw]
  have hcl : mj_callee y (.invokespecial idx) w (.inr (.inl a) :: st) = some (cy, [.inr (.inl a)], st, 0) := by
    rcases hk with rfl | rfl <;>
    · simp only [mj_callee, hq]
      unfold mj_dn
      rw [if_pos hlev, hargs]
  have e : mj_run y w f pc ls (.inr (.inl a) :: st) = mj_then 0 (mj_call cy w f [.inr (.inl a)]) y pc ls st :=
    mj_run_call (by unfold mj_nx; rw [d]; dsimp only; rw [if_pos (Or.inl hi), show mj_end y (.invokespecial idx) w (.inr (.inl a) :: st) = none from rfl, hcl]; dsimp only; rw [if_pos (Or.inl hi)])
  rw [e, hc]
  exact h
end MC
