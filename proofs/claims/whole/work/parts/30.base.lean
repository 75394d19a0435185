/-! Loops, squares in the memory. -/
def itr {α : Type} (n : Nat) (g : Nat → α → α) (a : α) : α := match n with
  | 0 => a
  | n + 1 => g n (itr n g a)
theorem loop_itr {α β : Type} (R : Nat → α → β) (P : Nat → α → Prop) (g : Nat → α → α) (n : Nat) (h : ∀ i a, i < n → P i a → R i a = R (i + 1) (g i a) ∧ P (i + 1) (g i a)) (a : α) (h0 : P 0 a) : R 0 a = R n (itr n g a) ∧ P n (itr n g a) := by
  induction n with
  | zero => exact ⟨rfl, h0⟩
  | succ n ih =>
    obtain ⟨h1, h2⟩ := ih (fun i a hi hp => h i a (by omega) hp)
    obtain ⟨h3, h4⟩ := h n _ (by omega) h2
    exact ⟨h1.trans h3, h4⟩
theorem loop_eq {α β : Type} (R : Nat → α → β) (g : Nat → α → α) (n : Nat) (h : ∀ i a, i < n → R i a = R (i + 1) (g i a)) (a : α) : R 0 a = R n (itr n g a) :=
  (loop_itr R (fun _ _ => True) g n (fun i a hi _ => ⟨h i a hi, trivial⟩) a trivial).1
theorem loop_ex {α β γ : Type} (R : Nat → α → γ → β) (g : Nat → α → α) (n : Nat) (h : ∀ i a u, i < n → ∃ u', R i a u = R (i + 1) (g i a) u') (a : α) (u : γ) : ∃ u', R 0 a u = R n (itr n g a) u' := by
  induction n with
  | zero => exact ⟨u, rfl⟩
  | succ n ih =>
    obtain ⟨u1, h1⟩ := ih (fun i a u hi => h i a u (by omega))
    obtain ⟨u2, h2⟩ := h n (itr n g a) u1 (by omega)
    exact ⟨u2, h1.trans h2⟩
theorem wS {i : Nat} (h : i < 2147483647) : mj_w ((i : Int) + 1) = ((i + 1 : Nat) : Int) := by unfold mj_w; omega
abbrev Mt : Type := Nat → Nat → Int
/-- a square of side S lies in the row a -/
def sm (a S : Nat) (f : mj_F) (A : Mt) : mj_F := fun b q => if b = a ∧ q < S * S then A (q / S) (q % S) else f b q
def gm (a S : Nat) (f : mj_F) : Mt := fun i j => f a (S * i + j)
def um (A : Mt) (i j : Nat) (v : Int) : Mt := fun x y => if x = i ∧ y = j then v else A x y
theorem ix_lt {S i j : Nat} (hi : i < S) (hj : j < S) : S * i + j < S * S := by
  have h1 : S * i + S ≤ S * S := by
    have := Nat.mul_le_mul_left S (show i + 1 ≤ S from hi)
    rw [Nat.mul_add, Nat.mul_one] at this
    exact this
  omega
theorem ix_div {S i j : Nat} (hj : j < S) : (S * i + j) / S = i := by
  rw [Nat.add_comm, Nat.add_mul_div_left _ _ (by omega), Nat.div_eq_of_lt hj, Nat.zero_add]
theorem ix_mod {S i j : Nat} (hj : j < S) : (S * i + j) % S = j := by
  rw [Nat.add_comm, Nat.add_mul_mod_self_left, Nat.mod_eq_of_lt hj]
theorem sm_gm (a S : Nat) (f : mj_F) : sm a S f (gm a S f) = f := by
  funext b q
  unfold sm gm
  split
  · next h => rw [Nat.div_add_mod, h.1]
  · rfl
theorem sm_get {a S : Nat} {f : mj_F} {A : Mt} {i j : Nat} (hi : i < S) (hj : j < S) : sm a S f A a (S * i + j) = A i j := by
  unfold sm
  rw [if_pos ⟨rfl, ix_lt hi hj⟩, ix_div hj, ix_mod hj]
theorem sm_put {a S : Nat} {f : mj_F} {A : Mt} {i j : Nat} {v : Int} (hi : i < S) (hj : j < S) : mj_u (sm a S f A) a (S * i + j) v = sm a S f (um A i j v) := by
  funext b q
  unfold mj_u sm um
  by_cases hb : b = a
  · subst hb
    by_cases hq : q < S * S
    · by_cases he : q = S * i + j
      · subst he
        rw [if_pos ⟨rfl, rfl⟩, if_pos ⟨rfl, hq⟩, ix_div hj, ix_mod hj, if_pos ⟨rfl, rfl⟩]
      · rw [if_neg (fun h => he h.2), if_pos ⟨rfl, hq⟩, if_pos ⟨rfl, hq⟩, if_neg]
        intro h
        apply he
        rw [← Nat.div_add_mod q S, h.1, h.2]
    · have he : q ≠ S * i + j := fun h => hq (by rw [h]; exact ix_lt hi hj)
      rw [if_neg (fun h => he h.2), if_neg (fun h => hq h.2), if_neg (fun h => hq h.2)]
  · rw [if_neg (fun h => hb h.1), if_neg (fun h => hb h.1), if_neg (fun h => hb h.1)]
theorem sm_o {a S : Nat} {f : mj_F} {A : Mt} {b q : Nat} (h : b ≠ a) : sm a S f A b q = f b q := by
  unfold sm
  rw [if_neg (fun q => h q.1)]
theorem sm_u {a S : Nat} {f : mj_F} {A : Mt} {b k : Nat} {v : Int} (h : b ≠ a) : mj_u (sm a S f A) b k v = sm a S (mj_u f b k v) A := by
  funext c q
  unfold mj_u sm
  by_cases h1 : c = b ∧ q = k
  · by_cases h2 : c = a ∧ q < S * S
    · exact absurd (h1.1.symm.trans h2.1) h
    · simp only [if_pos h1, if_neg h2]
  · by_cases h2 : c = a ∧ q < S * S
    · rw [if_neg h1, if_pos h2, if_pos h2]
    · simp only [if_neg h1, if_neg h2]
theorem u_self {f : mj_F} {a k : Nat} {v : Int} : mj_u f a k v a k = v := by unfold mj_u; rw [if_pos ⟨rfl, rfl⟩]
theorem u_o {f : mj_F} {a k b q : Nat} {v : Int} (h : b ≠ a ∨ q ≠ k) : mj_u f a k v b q = f b q := by
  unfold mj_u
  rw [if_neg]
  intro z
  rcases h with h | h
  · exact h z.1
  · exact h z.2
theorem mj_bu_none {o : Option mj_O} {w : mj_W} {f : mj_F} {k : mj_F → Option mj_O} (h : o = some (w, f, none)) : mj_bu o k = k f := by rw [h]; rfl
theorem mj_bi_int {o : Option mj_O} {w : mj_W} {f : mj_F} {x : Int} {k : mj_F → Int → Option mj_O} (h : o = some (w, f, some (.inl x))) : mj_bi o k = k f x := by rw [h]; rfl
