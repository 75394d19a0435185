/-! Rules are read, in both. -/
section TKL
variable {k x t v : Int}
theorem kwK_in (v : Int) : (kwK v = 5 ∧ v = 3554411) ∨ (kwK v = 6 ∧ v = 17171557) ∨ (kwK v = 7 ∧ v = 168165) ∨ (kwK v = 8 ∧ v = 20579924) ∨ (kwK v = 9 ∧ v = 762030) ∨ (kwK v = 10 ∧ v = 19636) ∨ (kwK v = 1 ∧ ¬ v = 3554411 ∧ ¬ v = 17171557 ∧ ¬ v = 168165 ∧ ¬ v = 20579924 ∧ ¬ v = 762030 ∧ ¬ v = 19636) := by
  unfold kwK
  (repeat' split) <;> omega
theorem TK_0 (h : TK k x t v) : k = 0 ↔ t = 0 := by have a := kwK_in v; unfold TK at h; omega
theorem TK_1 (h : TK k x t v) : k = 1 ↔ t = 1 ∧ kwK v = 1 := by have a := kwK_in v; unfold TK at h; omega
theorem TK_1v (h : TK k x t v) (e : k = 1) : x = v := by have a := kwK_in v; unfold TK at h; omega
theorem TK_2 (h : TK k x t v) : k = 2 ↔ t = 2 := by have a := kwK_in v; unfold TK at h; omega
theorem TK_2v (h : TK k x t v) (e : k = 2) : (x ≤ 50 ↔ v ≤ 50) ∧ (x ≤ 50 → x = v ∧ 0 ≤ v) := by have a := kwK_in v; unfold TK at h; omega
theorem TK_3 (h : TK k x t v) : k = 3 ↔ t = 4 := by have a := kwK_in v; unfold TK at h; omega
theorem TK_3v (h : TK k x t v) (e : k = 3) : x = v ∧ 0 ≤ v ∧ v ≤ 4 := by have a := kwK_in v; unfold TK at h; omega
theorem TK_4 (h : TK k x t v) : k = 4 ↔ t = 3 := by have a := kwK_in v; unfold TK at h; omega
theorem TK_5 (h : TK k x t v) : k = 5 ↔ t = 1 ∧ v = 3554411 := by have a := kwK_in v; unfold TK at h; omega
theorem TK_6 (h : TK k x t v) : k = 6 ↔ t = 1 ∧ v = 17171557 := by have a := kwK_in v; unfold TK at h; omega
theorem TK_7 (h : TK k x t v) : k = 7 ↔ t = 1 ∧ v = 168165 := by have a := kwK_in v; unfold TK at h; omega
theorem TK_8 (h : TK k x t v) : k = 8 ↔ t = 1 ∧ v = 20579924 := by have a := kwK_in v; unfold TK at h; omega
theorem TK_9 (h : TK k x t v) : k = 9 ↔ t = 1 ∧ v = 762030 := by have a := kwK_in v; unfold TK at h; omega
theorem TK_10 (h : TK k x t v) : k = 10 ↔ t = 1 ∧ v = 19636 := by have a := kwK_in v; unfold TK at h; omega
end TKL
/-- a rule more -/
def AR (f : mj_F) (P l m i : Nat) (rel num : Int) : mj_F := mj_u (mj_u (mj_u (mj_u (mj_u f (P + 5) (6 * l + m) (i : Int)) (P + 6) (6 * l + m) rel) (P + 7) (6 * l + m) num) (P + 4) l ((m + 1 : Nat) : Int)) (P + 3) i (if f (P + 3) i < num then num else f (P + 3) i)
section ARL
variable {f : mj_F} {P l m i : Nat} {rel num : Int}
theorem AR_3 (q : Nat) : AR f P l m i rel num (P + 3) q = if q = i then (if f (P + 3) i < num then num else f (P + 3) i) else f (P + 3) q := by
  unfold AR
  by_cases h : q = i
  · rw [if_pos h, h, u_self]
  · rw [if_neg h, u_o (Or.inr h), u_o (by omega), u_o (by omega), u_o (by omega), u_o (by omega)]
theorem AR_4 (q : Nat) : AR f P l m i rel num (P + 4) q = if q = l then ((m + 1 : Nat) : Int) else f (P + 4) q := by
  unfold AR
  by_cases h : q = l
  · rw [if_pos h, h, u_o (by omega), u_self]
  · rw [if_neg h, u_o (by omega), u_o (Or.inr h), u_o (by omega), u_o (by omega), u_o (by omega)]
theorem AR_5 (q : Nat) : AR f P l m i rel num (P + 5) q = if q = 6 * l + m then (i : Int) else f (P + 5) q := by
  unfold AR
  by_cases h : q = 6 * l + m
  · rw [if_pos h, h, u_o (by omega), u_o (by omega), u_o (by omega), u_o (by omega), u_self]
  · rw [if_neg h, u_o (by omega), u_o (by omega), u_o (by omega), u_o (by omega), u_o (Or.inr h)]
theorem AR_6 (q : Nat) : AR f P l m i rel num (P + 6) q = if q = 6 * l + m then rel else f (P + 6) q := by
  unfold AR
  by_cases h : q = 6 * l + m
  · rw [if_pos h, h, u_o (by omega), u_o (by omega), u_o (by omega), u_self]
  · rw [if_neg h, u_o (by omega), u_o (by omega), u_o (by omega), u_o (Or.inr h), u_o (by omega)]
theorem AR_7 (q : Nat) : AR f P l m i rel num (P + 7) q = if q = 6 * l + m then num else f (P + 7) q := by
  unfold AR
  by_cases h : q = 6 * l + m
  · rw [if_pos h, h, u_o (by omega), u_o (by omega), u_self]
  · rw [if_neg h, u_o (by omega), u_o (by omega), u_o (Or.inr h), u_o (by omega), u_o (by omega)]
theorem AR_o {a q : Nat} (h : ¬ (P + 3 ≤ a ∧ a ≤ P + 7)) : AR f P l m i rel num a q = f a q := by
  unfold AR
  rw [u_o (by omega), u_o (by omega), u_o (by omega), u_o (by omega), u_o (by omega)]
end ARL
/-- the greatest number told with each clock -/
def GU (f : mj_F) (P : Nat) : Prop :=
  (∀ l, l < 24 → 0 ≤ f (P + 4) l ∧ f (P + 4) l ≤ 6) ∧ (∀ e, e < 16 → 0 ≤ f (P + 10) e ∧ f (P + 10) e ≤ 4) ∧
  ∀ i : Nat, i < 4 → (0 ≤ f (P + 3) i ∧ f (P + 3) i ≤ 50) ∧
    (∀ l k : Nat, l < 24 → (k : Int) < f (P + 4) l → f (P + 5) (6 * l + k) = (i : Int) → f (P + 7) (6 * l + k) ≤ f (P + 3) i) ∧
    (∀ e k : Nat, e < 16 → (k : Int) < f (P + 10) e → f (P + 11) (4 * e + k) = (i : Int) → f (P + 12) (4 * e + k) ≤ f (P + 3) i) ∧
    (f (P + 3) i = 0 ∨ (∃ l k : Nat, l < 24 ∧ (k : Int) < f (P + 4) l ∧ f (P + 5) (6 * l + k) = (i : Int) ∧ f (P + 7) (6 * l + k) = f (P + 3) i) ∨ ∃ e k : Nat, e < 16 ∧ (k : Int) < f (P + 10) e ∧ f (P + 11) (4 * e + k) = (i : Int) ∧ f (P + 12) (4 * e + k) = f (P + 3) i)
theorem GU_c {f f' : mj_F} {P : Nat} (h : ∀ a, 3 ≤ a → a ≤ 12 → f' (P + a) = f (P + a)) (g : GU f P) : GU f' P := by
  unfold GU at g ⊢
  rw [h 3 (by omega) (by omega), h 4 (by omega) (by omega), h 5 (by omega) (by omega), h 7 (by omega) (by omega), h 10 (by omega) (by omega), h 11 (by omega) (by omega), h 12 (by omega) (by omega)]
  exact g
theorem GU_AR {f : mj_F} {P l m i : Nat} {rel num : Int} (hl : l < 24) (hm : m < 6) (hf : f (P + 4) l = (m : Int)) (hn : 0 ≤ num ∧ num ≤ 50) (g : GU f P) : GU (AR f P l m i rel num) P := by
  obtain ⟨g1, g2, g3⟩ := g
  have e10 : ∀ q, AR f P l m i rel num (P + 10) q = f (P + 10) q := fun q => AR_o (by omega)
  have e11 : ∀ q, AR f P l m i rel num (P + 11) q = f (P + 11) q := fun q => AR_o (by omega)
  have e12 : ∀ q, AR f P l m i rel num (P + 12) q = f (P + 12) q := fun q => AR_o (by omega)
  refine ⟨fun q hq => ?_, fun q hq => by rw [e10]; exact g2 q hq, fun j hj => ?_⟩
  · rw [AR_4]
    have := g1 q hq
    split <;> omega
  · obtain ⟨a1, a2, a3, a4⟩ := g3 j hj
    have e3 : f (P + 3) j ≤ AR f P l m i rel num (P + 3) j ∧ (j = i → num ≤ AR f P l m i rel num (P + 3) j) ∧ (AR f P l m i rel num (P + 3) j = f (P + 3) j ∨ (j = i ∧ AR f P l m i rel num (P + 3) j = num)) := by
      rw [AR_3]
      by_cases q : j = i
      · subst q
        rw [if_pos rfl]
        split <;> omega
      · rw [if_neg q]; omega
    refine ⟨by omega, fun l' k hl' hk he => ?_, fun e k h1 h2 h3 => ?_, ?_⟩
    · rw [AR_4] at hk
      rw [AR_5] at he
      rw [AR_7]
      have := g1 l' hl'
      by_cases q : 6 * l' + k = 6 * l + m
      · rw [if_pos q] at he ⊢
        exact e3.2.1 (by omega)
      · rw [if_neg q] at he ⊢
        have hk' : (k : Int) < f (P + 4) l' := by
          by_cases z : l' = l
          · subst z; rw [if_pos rfl] at hk; omega
          · rw [if_neg z] at hk; exact hk
        have := a2 l' k hl' hk' he
        omega
    · rw [e10] at h2
      rw [e11] at h3
      rw [e12]
      have := a3 e k h1 h2 h3
      omega
    · rcases e3.2.2 with z | ⟨z1, z2⟩
      · rw [z]
        rcases a4 with b | ⟨l', k, b1, b2, b3, b4⟩ | ⟨e, k, b1, b2, b3, b4⟩
        · exact Or.inl b
        · refine Or.inr (Or.inl ⟨l', k, b1, ?_, ?_, ?_⟩)
          · rw [AR_4]
            by_cases z : l' = l
            · subst z; rw [if_pos rfl]; omega
            · rw [if_neg z]; exact b2
          · have := g1 l' b1
            rw [AR_5, if_neg (fun y => by have e1 : l' = l := by omega
                                          subst e1; omega)]
            exact b3
          · have := g1 l' b1
            rw [AR_7, if_neg (fun y => by have e1 : l' = l := by omega
                                          subst e1; omega)]
            exact b4
        · exact Or.inr (Or.inr ⟨e, k, b1, by rw [e10]; exact b2, by rw [e11]; exact b3, by rw [e12]; exact b4⟩)
      · refine Or.inr (Or.inl ⟨l, m, hl, ?_, ?_, ?_⟩)
        · rw [AR_4, if_pos rfl]; omega
        · rw [AR_5, if_pos rfl, z1]
        · rw [AR_7, if_pos rfl, z2]
section WH
variable {sw sw' : Bool} {w w' : mj_W}
theorem L_addRule (hw : wk sw w) {P : Nat} (hp : pn P) (f : mj_F) {l m i : Nat} (hl : l < 24) (hm : m < 6) (hi : i < 4) (hf : f (P + 4) l = (m : Int)) (rel num : Int) : mj_call yL_addRule w f [.inr (.inl P), .inl (l : Int), .inl (i : Int), .inl rel, .inl num] = some (w, AR f P l m i rel num, none) := by
  rw [c_L_addRule hw _ _ _ _ _ _ hp]
  have e : mj_w ((mj_w ((l : Int) * 6)) + (f (P + 4) (l : Int).toNat)) = ((6 * l + m : Nat) : Int) := by
    rw [Int.toNat_natCast, hf, w_id (a := (l : Int) * 6) (by omega), w_id (by omega)]
    omega
  rw [e]
  simp only [Int.toNat_natCast]
  rw [mj_gd_pos (by omega), mj_gd_pos (by omega), mj_gd_pos (by omega), mj_gd_pos (by omega), mj_gd_pos (by omega), mj_gd_pos (by omega), mj_gd_pos (by omega), mj_gd_pos (by omega)]
  have r4 : mj_u (mj_u (mj_u f (P + 5) (6 * l + m) (i : Int)) (P + 6) (6 * l + m) rel) (P + 7) (6 * l + m) num (P + 4) l = (m : Int) := by
    rw [u_o (by omega), u_o (by omega), u_o (by omega), hf]
  rw [r4, wS (by omega)]
  have r3 : mj_u (mj_u (mj_u (mj_u f (P + 5) (6 * l + m) (i : Int)) (P + 6) (6 * l + m) rel) (P + 7) (6 * l + m) num) (P + 4) l ((m + 1 : Nat) : Int) (P + 3) i = f (P + 3) i := by
    rw [u_o (by omega), u_o (by omega), u_o (by omega), u_o (by omega)]
  rw [r3]
  rfl
end WH
