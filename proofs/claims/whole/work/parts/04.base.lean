/-! The real machine follows ours: values, cells, the world. -/
def lw_t2 : List Cond := lw_tbl.filter goodWord
def mj_rg (v : Int) : Prop := -2147483648 ≤ v ∧ v < 2147483648
def mj_okv : mj_V → Prop
  | .inl v => mj_rg v
  | .inr (.inl _) => True
  | .inr (.inr (.inl v)) => -9223372036854775808 ≤ v ∧ v < 9223372036854775808
  | .inr (.inr (.inr _)) => True
def mj_ad (b sz a : Nat) : Nat := if a = 1 then b else sz + a - 2
def mj_val (b sz : Nat) : mj_V → Value
  | .inl v => .int (Int32.ofInt v)
  | .inr (.inl a) => .ref (mj_ad b sz a)
  | .inr (.inr (.inl v)) => .long (Int64.ofInt v)
  | .inr (.inr (.inr _)) => .null
theorem mj_to {v : Int} (h : mj_rg v) : (Int32.ofInt v).toInt = v := Int32.toInt_ofInt_of_le h.1 h.2
theorem mj_rg_to (x : Int32) : mj_rg x.toInt := ⟨Int32.le_toInt x, Int32.toInt_lt x⟩
theorem mj_w_rg (x : Int) : mj_rg (mj_w x) := by unfold mj_w mj_rg; omega
theorem mj_w8_rg (x : Int) : mj_rg (mj_w8 x) := by unfold mj_w8 mj_rg; omega
theorem mj_w_id {x : Int} (h1 : -2147483648 ≤ x) (h2 : x < 2147483648) : mj_w x = x := by unfold mj_w; omega
theorem mj_bmod (x : Int) : x.bmod (2 ^ 32) = mj_w x := by
  rw [Int.bmod_def]
  unfold mj_w
  have : ((2 ^ 32 : Nat) : Int) = 4294967296 := by decide
  rw [this]
  split <;> omega
theorem mj_ofw (x : Int) : Int32.ofInt (mj_w x) = Int32.ofInt x := by
  apply Int32.toInt_inj.mp
  rw [mj_to (mj_w_rg x), Int32.toInt_ofInt]
  exact (mj_bmod x).symm
theorem mj_lt {a b : Int} (ha : mj_rg a) (hb : mj_rg b) : Int32.ofInt a < Int32.ofInt b ↔ a < b := by rw [Int32.lt_iff_toInt_lt, mj_to ha, mj_to hb]
theorem mj_le {a b : Int} (ha : mj_rg a) (hb : mj_rg b) : Int32.ofInt a ≤ Int32.ofInt b ↔ a ≤ b := by rw [Int32.le_iff_toInt_le, mj_to ha, mj_to hb]
theorem mj_eq {a b : Int} (ha : mj_rg a) (hb : mj_rg b) : Int32.ofInt a = Int32.ofInt b ↔ a = b := by rw [← Int32.toInt_inj, mj_to ha, mj_to hb]
theorem mj_rg0 : mj_rg 0 := by unfold mj_rg; omega
theorem mj_clamp {a : Int} (ha : mj_rg a) : (Int32.ofInt a).toNatClampNeg = a.toNat := by
  show (Int32.ofInt a).toInt.toNat = a.toNat
  rw [mj_to ha]
theorem mj_vpin {j : Int} {n : Nat} (h : mj_rg j) (h0 : 0 ≤ j) (h1 : j < n) : vp_in (Int32.ofInt j) n := by
  unfold vp_in
  rw [mj_clamp h]
  intro q
  rcases q with q | q
  · have := (mj_lt h mj_rg0).mp q
    omega
  · omega
theorem mj_ofto (x : Int32) : Int32.ofInt x.toInt = x := Int32.ofInt_toInt x
theorem mj_w8_of (a : Int) : (Int32.ofInt a).toInt8.toInt32 = Int32.ofInt (mj_w8 a) := by
  apply Int32.toInt_inj.mp
  rw [mj_to (mj_w8_rg a), Int8.toInt_toInt32, Int32.toInt_toInt8, Int32.toInt_ofInt, mj_bmod, Int.bmod_def]
  unfold mj_w mj_w8
  have : ((2 ^ 8 : Nat) : Int) = 256 := by decide
  rw [this]
  split <;> omega
theorem mj_to64 {v : Int} (h1 : -9223372036854775808 ≤ v) (h2 : v < 9223372036854775808) : (Int64.ofInt v).toInt = v := Int64.toInt_ofInt_of_le h1 h2
theorem mj_w64_rg (x : Int) : -9223372036854775808 ≤ mj_w64 x ∧ mj_w64 x < 9223372036854775808 := by unfold mj_w64; omega
theorem mj_ofw64 (x : Int) : Int64.ofInt (mj_w64 x) = Int64.ofInt x := by
  apply Int64.toInt_inj.mp
  rw [mj_to64 (mj_w64_rg x).1 (mj_w64_rg x).2, Int64.toInt_ofInt, Int.bmod_def]
  unfold mj_w64
  have : ((2 ^ 64 : Nat) : Int) = 18446744073709551616 := by decide
  rw [this]
  split <;> omega
theorem mj_i2l {a : Int} (h : mj_rg a) : (Int32.ofInt a).toInt64 = Int64.ofInt a := by
  apply Int64.toInt_inj.mp
  rw [Int32.toInt_toInt64, mj_to h, mj_to64 (by unfold mj_rg at h; omega) (by unfold mj_rg at h; omega)]
