/-! An edge's line: the plan behind it. -/
theorem edge_end {P : Nat} {f g f6 gF : mj_F} {c np ne st ln m' m'' ia ib : Nat} {sd : Int} (h16 : ne < 16) (pj : PJ P f g c np ne st ln sd) (hP : 5 ≤ P)
    (fo6 : ∀ a q, a ≠ 3 → ¬ (a = P ∧ q = 3) → ¬ ((a = P + 8 ∨ a = P + 9 ∨ a = P + 10) ∧ q = ne) → ¬ (a = P + 3) → ¬ (a = P + 4 ∧ q = 8 + ne) → ¬ (P + 5 ≤ a ∧ a ≤ P + 7 ∧ 6 * (8 + ne) ≤ q ∧ q < 6 * (8 + ne) + 6 ∨ P + 11 ≤ a ∧ a ≤ P + 12 ∧ 4 * ne ≤ q ∧ q < 4 * ne + 4) → f6 a q = f a q)
    (go6 : ∀ a q, ¬ (a = 223 ∧ (27 ≤ q ∧ q ≤ 33 ∨ q = 38)) → ¬ (a = 243 ∧ q = 8 + ne) → ¬ (244 ≤ a ∧ a ≤ 246 ∧ 6 * (8 + ne) ≤ q ∧ q < 6 * (8 + ne) + 6 ∨ 250 ≤ a ∧ a ≤ 251 ∧ 4 * ne ≤ q ∧ q < 4 * ne + 4) → ¬ (247 ≤ a ∧ a ≤ 249 ∧ q = ne) → gF a q = g a q)
    (v3 : f6 P 3 = ((ne + 1 : Nat) : Int)) (w3 : gF 223 38 = ((ne + 1 : Nat) : Int)) (lj : LJ f6 gF P c (8 + ne) m') (zj : ZJ f6 gF P c ne m'') (hia : ia < np) (hib : ib < np) (v8 : f6 (P + 8) ne = (ia : Int)) (w8 : gF 247 ne = (ia : Int)) (v9 : f6 (P + 9) ne = (ib : Int)) (w9 : gF 248 ne = (ib : Int)) (gu : GU f6 P) : PJ P f6 gF c np (ne + 1) st ln sd := by
  obtain ⟨⟨n1, n2, n3, n4⟩, ⟨hnp, hne, pb⟩, ⟨m0, m1, m2, m3, m4, m5, m6, m7, m8, m9⟩, pd, q1, q2, q3, q4, q5⟩ := pj
  refine ⟨⟨n1, ?_, ?_, fun j hj => ?_⟩, ⟨hnp, by omega, pb⟩, ⟨?_, ?_, ?_, ?_, v3, w3, ?_, ?_, ?_, ?_⟩, fun j hj => ?_, fun l hl => ?_, fun e he => ?_, fun l h1 h2 => ?_, fun e h1 h2 => ?_, gu⟩
  · rw [fo6 _ _ (by omega) (by omega) (by omega) (by omega) (by omega) (by omega)]; exact n2
  · rw [go6 _ _ (by omega) (by omega) (by omega) (by omega)]; exact n3
  · rw [fo6 _ _ (by omega) (by omega) (by omega) (by omega) (by omega) (by omega), go6 _ _ (by omega) (by omega) (by omega) (by omega)]; exact n4 j hj
  · rw [fo6 _ _ (by omega) (by omega) (by omega) (by omega) (by omega) (by omega)]; exact m0
  · rw [go6 _ _ (by omega) (by omega) (by omega) (by omega)]; exact m1
  · rw [fo6 _ _ (by omega) (by omega) (by omega) (by omega) (by omega) (by omega)]; exact m2
  · rw [go6 _ _ (by omega) (by omega) (by omega) (by omega)]; exact m3
  · rw [fo6 _ _ (by omega) (by omega) (by omega) (by omega) (by omega) (by omega)]; exact m6
  · rw [go6 _ _ (by omega) (by omega) (by omega) (by omega)]; exact m7
  · rw [fo6 _ _ (by omega) (by omega) (by omega) (by omega) (by omega) (by omega)]; exact m8
  · rw [go6 _ _ (by omega) (by omega) (by omega) (by omega)]; exact m9
  · rw [fo6 _ _ (by omega) (by omega) (by omega) (by omega) (by omega) (by omega), go6 _ _ (by omega) (by omega) (by omega) (by omega)]; exact pd j hj
  · clear pb
    obtain ⟨m, a⟩ := q1 l hl
    exact ⟨m, LJ_p (fun a q h1 h2 h3 h4 => fo6 _ _ (by omega) (by omega) (by omega) (by omega) (by omega) (by omega)) (fun a q h1 h2 h3 h4 => go6 _ _ (by omega) (by omega) (by omega) (by omega)) a⟩
  · clear pb
    by_cases z : e = ne
    · subst z
      exact ⟨⟨m', lj⟩, ⟨m'', zj⟩, ia, ib, hia, hib, v8, w8, v9, w9⟩
    · obtain ⟨⟨m, a⟩, ⟨m1, a'⟩, u, u', d1, d2, d3, d4, d5, d6⟩ := q2 e (by omega)
      refine ⟨⟨m, LJ_p (fun a q h1 h2 h3 h4 => fo6 _ _ (by omega) (by omega) (by omega) (by omega) (by omega) (by omega)) (fun a q h1 h2 h3 h4 => go6 _ _ (by omega) (by omega) (by omega) (by omega)) a⟩, ⟨m1, ZJ_p (fun a q h1 h2 h3 h4 => fo6 _ _ (by omega) (by omega) (by omega) (by omega) (by omega) (by omega)) (fun a q h1 h2 h3 h4 => go6 _ _ (by omega) (by omega) (by omega) (by omega)) a'⟩, u, u', d1, d2, ?_, ?_, ?_, ?_⟩
      · rw [fo6 _ _ (by omega) (by omega) (by omega) (by omega) (by omega) (by omega)]; exact d3
      · rw [go6 _ _ (by omega) (by omega) (by omega) (by omega)]; exact d4
      · rw [fo6 _ _ (by omega) (by omega) (by omega) (by omega) (by omega) (by omega)]; exact d5
      · rw [go6 _ _ (by omega) (by omega) (by omega) (by omega)]; exact d6
  · rw [fo6 _ _ (by omega) (by omega) (by omega) (by omega) (by omega) (by omega)]; exact q3 l h1 h2
  · have z := q4 e (by omega) h2
    refine ⟨?_, ?_⟩
    · rw [fo6 _ _ (by omega) (by omega) (by omega) (by omega) (by omega) (by omega)]; exact z.1
    · rw [fo6 _ _ (by omega) (by omega) (by omega) (by omega) (by omega) (by omega)]; exact z.2
