/-! Sums of bounds in the machine's numbers. -/
theorem bi_toInt {a : Int} (h : -2147483648 ≤ a ∧ a < 2147483648) : (Int32.ofInt a).toInt = a := by
  rw [Int32.toInt_ofInt]
  have : (2 : Nat) ^ 32 = 4294967296 := by decide
  unfold Int32.size
  rw [Int.bmod_def]
  omega
theorem bi_1 (a : Int) : Int32.ofInt a &&& Int32.ofInt 1 = Int32.ofInt (a % 2) := by
  apply Int32.toBitVec_inj.mp
  apply BitVec.eq_of_toNat_eq
  rw [Int32.toBitVec_and, BitVec.toNat_and]
  show ((BitVec.ofInt 32 a).toNat &&& 1) = (BitVec.ofInt 32 (a % 2)).toNat
  rw [Nat.and_one_is_mod, BitVec.toNat_ofInt, BitVec.toNat_ofInt]
  omega
theorem and_1 (a : Int) : mj_and a 1 = a % 2 := by
  unfold mj_and
  rw [bi_1, bi_toInt (by omega)]
theorem bi_01 (a : Int) : Int32.ofInt (a % 2) = 0 ∨ Int32.ofInt (a % 2) = 1 := by
  rcases Int.emod_two_eq a with h | h
  · exact Or.inl (by rw [h]; rfl)
  · exact Or.inr (by rw [h]; rfl)
theorem and_and_1 (a b : Int) : mj_and (mj_and a b) 1 = min (a % 2) (b % 2) := by
  have e : Int32.ofInt (Int32.ofInt a &&& Int32.ofInt b).toInt = Int32.ofInt a &&& Int32.ofInt b := Int32.ofInt_toInt _
  have e2 : (Int32.ofInt a &&& Int32.ofInt b) &&& Int32.ofInt 1 = (Int32.ofInt a &&& Int32.ofInt 1) &&& (Int32.ofInt b &&& Int32.ofInt 1) := by
    apply Int32.toBitVec_inj.mp
    simp only [Int32.toBitVec_and]
    rw [BitVec.and_assoc, BitVec.and_assoc]
    congr 1
    rw [← BitVec.and_assoc, BitVec.and_comm (Int32.ofInt 1).toBitVec, BitVec.and_assoc, BitVec.and_self]
  unfold mj_and
  rw [e, e2, bi_1, bi_1]
  rcases Int.emod_two_eq a with h | h <;> rcases Int.emod_two_eq b with h' | h' <;> rw [h, h'] <;> rfl
theorem and_or_1 (a b : Int) : mj_and (mj_or a b) 1 = max (a % 2) (b % 2) := by
  have e : Int32.ofInt (Int32.ofInt a ||| Int32.ofInt b).toInt = Int32.ofInt a ||| Int32.ofInt b := Int32.ofInt_toInt _
  have e2 : (Int32.ofInt a ||| Int32.ofInt b) &&& Int32.ofInt 1 = (Int32.ofInt a &&& Int32.ofInt 1) ||| (Int32.ofInt b &&& Int32.ofInt 1) := by
    apply Int32.toBitVec_inj.mp
    simp only [Int32.toBitVec_and, Int32.toBitVec_or]
    apply BitVec.eq_of_getLsbD_eq
    intro i hi
    simp only [BitVec.getLsbD_and, BitVec.getLsbD_or]
    exact Bool.and_or_distrib_right _ _ _
  unfold mj_and mj_or
  rw [e, e2, bi_1, bi_1]
  rcases Int.emod_two_eq a with h | h <;> rcases Int.emod_two_eq b with h' | h' <;> rw [h, h'] <;> rfl
theorem bi_m2 (x : BitVec 32) : (x &&& (-2 : BitVec 32)) + (x &&& 1#32) = x := by
  rw [BitVec.add_eq_or_of_and_eq_zero]
  · rw [← BitVec.and_or_distrib_left]
    rw [show ((-2 : BitVec 32) ||| 1#32) = BitVec.allOnes 32 by decide]
    exact BitVec.and_allOnes
  · rw [BitVec.and_assoc, ← BitVec.and_assoc (-2 : BitVec 32), BitVec.and_comm (-2 : BitVec 32), BitVec.and_assoc]
    rw [show ((-2 : BitVec 32) &&& 1#32) = 0#32 by decide]
    simp
theorem and_m2 {a : Int} (h : -2147483648 ≤ a ∧ a < 2147483648) : mj_and a (-2) = a - a % 2 := by
  have h1 : (Int32.ofInt a &&& Int32.ofInt (-2)) + (Int32.ofInt a &&& Int32.ofInt 1) = Int32.ofInt a := by
    apply Int32.toBitVec_inj.mp
    exact bi_m2 _
  rw [bi_1] at h1
  have h2 : Int32.ofInt a &&& Int32.ofInt (-2) = Int32.ofInt (a - a % 2) := by
    have h3 : Int32.ofInt (a - a % 2) + Int32.ofInt (a % 2) = Int32.ofInt a := by
      rw [← Int32.ofInt_add]
      congr 1
      omega
    have h4 := h1.trans h3.symm
    have h5 := congrArg (fun z => z - Int32.ofInt (a % 2)) h4
    simp only [Int32.add_sub_cancel] at h5
    exact h5
  unfold mj_and
  rw [h2, bi_toInt (by omega)]
theorem or_p {a b : Int} (h : -2147483648 ≤ a ∧ a < 2147483648) (h0 : a % 2 = 0) (hb : b = 0 ∨ b = 1) : mj_or a b = a + b := by
  have h1 : Int32.ofInt a ||| Int32.ofInt b = Int32.ofInt a + Int32.ofInt b := by
    apply Int32.toBitVec_inj.mp
    rw [Int32.toBitVec_or, Int32.toBitVec_add, BitVec.add_eq_or_of_and_eq_zero]
    rw [← Int32.toBitVec_and]
    rcases hb with rfl | rfl
    · exact BitVec.and_zero
    · rw [bi_1, h0]; rfl
  unfold mj_or
  rw [h1, ← Int32.ofInt_add, bi_toInt (by omega)]
theorem shr_1 {a : Int} (h : -2147483648 ≤ a ∧ a < 2147483648) : mj_shr a 1 = a / 2 := by
  have h1 : (Int32.ofInt a >>> (Int32.ofInt 1 &&& 31)).toBitVec = (Int32.ofInt a).toBitVec.sshiftRight 1 := rfl
  have h2 : (Int32.ofInt a >>> (Int32.ofInt 1 &&& 31)).toInt = (Int32.ofInt a).toInt >>> 1 := by
    show (Int32.ofInt a >>> (Int32.ofInt 1 &&& 31)).toBitVec.toInt = _
    rw [h1, BitVec.toInt_sshiftRight]
    rfl
  unfold mj_shr
  rw [h2, bi_toInt h, Int.shiftRight_eq_div_pow]
  rfl
theorem w_id {a : Int} (h : -2147483648 ≤ a ∧ a < 2147483648) : mj_w a = a := by unfold mj_w; omega
theorem rs_pz {a b : Int} (ha : -1000000000 < a ∧ a < 1000000000) (hb : -1000000000 < b ∧ b < 1000000000) : rs a b = pz a b := by
  unfold rs
  rw [and_m2 (by omega), and_m2 (by omega), and_and_1, w_id (by omega), or_p (by omega) (by omega) (by omega)]
  unfold pz
  omega
theorem cs_pz {a b : Int} (ha : -1000000000 < a ∧ a < 1000000000) (hb : -1000000000 < b ∧ b < 1000000000) : cs a b = pz a b := by
  unfold cs
  rw [w_id (a := a + b) (by omega), and_or_1, w_id (by omega)]
  unfold pz
  omega
theorem am_id {n : Int} (h : -1000000 < n ∧ n < 1000000) : am n = 2 * n + 1 := by
  unfold am
  rw [w_id (a := 2 * n) (by omega), w_id (by omega)]
theorem ls_id {n : Int} (h : -1000000 < n ∧ n < 1000000) : ls n = 2 * n := by
  unfold ls
  rw [w_id (by omega)]
/-! The machine's numbers as bounds: of the class, of the reference. -/
def cv (b : Int) : Bd := if 268435456 ≤ b then none else some b
def rv (b : Int) : Bd := if 1000000 ≤ b then none else some b
def cT (C : Mt) : Bt := fun i j => cv (C i j)
def rT (C : Mt) : Bt := fun i j => rv (C i j)
theorem cv_n {b : Int} (h : 268435456 ≤ b) : cv b = none := if_pos h
theorem cv_s {b : Int} (h : b < 268435456) : cv b = some b := if_neg (by omega)
theorem rv_n {b : Int} (h : 1000000 ≤ b) : rv b = none := if_pos h
theorem rv_s {b : Int} (h : b < 1000000) : rv b = some b := if_neg (by omega)
theorem cv_i {b x : Int} (h : cv b = some x) : b = x ∧ b < 268435456 := by
  unfold cv at h
  split at h
  · cases h
  · exact ⟨Option.some.inj h, by omega⟩
theorem rv_i {b x : Int} (h : rv b = some x) : b = x ∧ b < 1000000 := by
  unfold rv at h
  split at h
  · cases h
  · exact ⟨Option.some.inj h, by omega⟩
theorem cv_o {b : Int} (h : cv b = none) : 268435456 ≤ b := by
  unfold cv at h
  split at h
  · assumption
  · cases h
theorem rv_o {b : Int} (h : rv b = none) : 1000000 ≤ b := by
  unfold rv at h
  split at h
  · assumption
  · cases h
/-- a bound that is small -/
def sml (M : Int) (b : Bd) : Prop := ∀ x, b = some x → -M < x ∧ x < M
theorem sml_n (M : Int) : sml M none := fun _ h => by cases h
theorem Bb_sml {n : Nat} {M : Int} {A : Bt} (h : Bb n M A) {i j : Nat} (hi : i < n) (hj : j < n) : sml M (A i j) := fun x hx => h i j x hi hj hx
theorem cp_bad {a b : Int} (ha : sml 100000000 (cv a)) (hb : sml 100000000 (cv b)) : cv (cp a b) = bad (cv a) (cv b) := by
  unfold cp
  by_cases h1 : 268435456 ≤ a
  · rw [if_pos h1, cv_n h1, cv_n (by decide)]; rfl
  · rw [if_neg h1]
    have := ha a (cv_s (by omega))
    by_cases h2 : b < 268435456
    · have := hb b (cv_s h2)
      rw [if_pos h2, cs_pz (by omega) (by omega), cv_s (b := a) (by omega), cv_s (b := b) h2]
      have := pz_lo a b
      rw [cv_s (by omega)]
      rfl
    · rw [if_neg h2, cv_n (b := b) (by omega), cv_n (by decide), bad_c]; rfl
/-- the reference's sum, whatever it comes to -/
theorem rp_cases {a b : Int} (ha : sml 1000000 (rv a)) (hb : sml 1000000 (rv b)) : (bad (rv a) (rv b) = none ∧ rp a b = 1000000) ∨ (a < 1000000 ∧ b < 1000000 ∧ bad (rv a) (rv b) = some (pz a b) ∧ rp a b = pz a b) := by
  unfold rp
  by_cases h1 : 1000000 ≤ a
  · rw [if_pos h1, rv_n h1]; exact Or.inl ⟨rfl, rfl⟩
  · rw [if_neg h1]
    have := ha a (rv_s (by omega))
    by_cases h2 : b < 1000000
    · have := hb b (rv_s h2)
      rw [if_pos h2, rs_pz (by omega) (by omega), rv_s (b := a) (by omega), rv_s (b := b) h2]
      exact Or.inr ⟨by omega, h2, rfl, rfl⟩
    · rw [if_neg h2, rv_n (b := b) (by omega), bad_c]; exact Or.inl ⟨rfl, rfl⟩
