/-! The walk asks what the trace asks. -/
theorem bsh_ru {k rel x : Int} : bsh k (ru rel x) = ru rel (x + k) := by
  unfold ru
  split
  · show some (2 * x + 2 * k) = some (2 * (x + k)); congr 1; omega
  · split
    · show some (2 * x + 1 + 2 * k) = some (2 * (x + k) + 1); congr 1; omega
    · rfl
theorem bsh_rl {k rel x : Int} : bsh k (rl rel x) = rl rel (x - k) := by
  unfold rl
  split
  · show some (-2 * x + 2 * k) = some (-2 * (x - k)); congr 1; omega
  · split
    · show some (-2 * x + 1 + 2 * k) = some (-2 * (x - k) + 1); congr 1; omega
    · rfl
theorem okW_low {N m : Nat} {K : Bt} {s : Nat → Nat} {β : Nat → Int} {i j : Nat} {rel x : Int} (hx : -50 ≤ x ∧ x ≤ 50) (h : okW N m K s β) : okW N m (lowR i j rel x K) s β := by
  obtain ⟨h1, h2, h3, h4, h5, h6⟩ := h
  exact ⟨h1, h2, Bb_lowR (by omega) (by omega) h3, lowR_diag h4, h5, h6⟩
/-- whens of a list, in a walk -/
theorem WS_rules {f : mj_F} {p N m l mm : Nat} {s : Nat → Nat} {β : Nat → Int} (hN : 0 < N) (hs : sLm f p l mm) (hr : rOK f l mm) (hc : ∀ k, k < mm → (f 225 (6 * l + k)).toNat + 1 < N) (hz : β 0 = 0) {K : Bt} (ho : okW N m K s β) {q : Int × Mt} (h : WS N m K s β q) : ∃ K', okW N m K' s β ∧ WS N m K' s β (zkr f p N l mm q) ∧ ∀ D, Bl m D K' ↔ Bl m D K ∧ rlP f l (s 0) mm (fun x => (s (x + 1) : Int)) (fun x => β (x + 1)) D := by
  induction mm with
  | zero => exact ⟨K, ho, h, fun D => ⟨fun y => ⟨y, fun k hk => absurd hk (by omega)⟩, fun y => y.1⟩⟩
  | succ mm ih =>
    obtain ⟨K1, o1, w1, p1⟩ := ih (fun k hk => hs k (by omega)) (fun k hk => hr k (by omega)) (fun k hk => hc k (by omega))
    obtain ⟨e5, e6, e7⟩ := hs mm (by omega)
    have r := hr mm (by omega)
    have c1 := hc mm (by omega)
    have hb := o1.2.2.2.2.2 _ c1
    have hsc := o1.2.2.2.2.1 _ c1
    have hs0 := o1.2.2.2.2.1 0 hN
    have hx : -1000 ≤ f 227 (6 * l + mm) ∧ f 227 (6 * l + mm) ≤ 1000 := by omega
    have w2 := WS_tig o1 (i := (f 225 (6 * l + mm)).toNat + 1) (j := 0) c1 hN (b := upB (f 226 (6 * l + mm)) (f 227 (6 * l + mm))) (by rw [cv_up hx]; exact sml_ru hx (by omega)) w1
    rw [cv_up hx, bsh_ru, hz] at w2
    have o2 : okW N m (lowB (s 0) (s ((f 225 (6 * l + mm)).toNat + 1)) (ru (f 226 (6 * l + mm)) (f 227 (6 * l + mm) + (0 - β ((f 225 (6 * l + mm)).toNat + 1)))) K1) s β := by
      obtain ⟨h1, h2, h3, h4, h5, h6⟩ := o1
      exact ⟨h1, h2, Bb_low h3 (sml_ru (by omega) (by omega)), lowB_diag h4, h5, h6⟩
    have w3 := WS_tig o2 (i := 0) (j := (f 225 (6 * l + mm)).toNat + 1) hN c1 (b := loB (f 226 (6 * l + mm)) (f 227 (6 * l + mm))) (by rw [cv_lo hx]; exact sml_rl hx (by omega)) w2
    rw [cv_lo hx, bsh_rl, hz] at w3
    have ex : f 227 (6 * l + mm) + (0 - β ((f 225 (6 * l + mm)).toNat + 1)) = f 227 (6 * l + mm) - β ((f 225 (6 * l + mm)).toNat + 1) := by omega
    have ex2 : f 227 (6 * l + mm) - (β ((f 225 (6 * l + mm)).toNat + 1) - 0) = f 227 (6 * l + mm) - β ((f 225 (6 * l + mm)).toNat + 1) := by omega
    rw [ex, ex2] at w3
    refine ⟨lowR (s 0) (s ((f 225 (6 * l + mm)).toNat + 1)) (f 226 (6 * l + mm)) (f 227 (6 * l + mm) - β ((f 225 (6 * l + mm)).toNat + 1)) K1, okW_low (by omega) o1, ?_, fun D => ?_⟩
    · have ez : zkr f p N l (mm + 1) q = zt N 0 ((f (p + 5) (6 * l + mm)).toNat + 1) (loB (f (p + 6) (6 * l + mm)) (f (p + 7) (6 * l + mm))) (zt N ((f (p + 5) (6 * l + mm)).toNat + 1) 0 (upB (f (p + 6) (6 * l + mm)) (f (p + 7) (6 * l + mm))) (zkr f p N l mm q).1 (zkr f p N l mm q).2).1 (zt N ((f (p + 5) (6 * l + mm)).toNat + 1) 0 (upB (f (p + 6) (6 * l + mm)) (f (p + 7) (6 * l + mm))) (zkr f p N l mm q).1 (zkr f p N l mm q).2).2 := rfl
      rw [ez, e5, e6, e7]
      exact w3
    · rw [Bl_lowR hs0 hsc, p1 D]
      constructor
      · intro ⟨⟨a1, a2⟩, a3⟩
        refine ⟨a1, fun k hk => ?_⟩
        by_cases z : k = mm
        · rw [z]; exact a3
        · exact a2 k (by omega)
      · intro ⟨a1, a2⟩
        exact ⟨⟨a1, fun k hk => a2 k (by omega)⟩, a2 mm (by omega)⟩
/-- sets of an edge, in a walk -/
theorem WS_sets {f : mj_F} {p N m e mm : Nat} {K : Bt} (hN : 0 < N) (hss : ∀ k, k < mm → f (p + 11) (4 * e + k) = f 231 (4 * e + k) ∧ f (p + 12) (4 * e + k) = f 232 (4 * e + k) ∧ (f 231 (4 * e + k)).toNat + 1 < N ∧ 0 ≤ f 232 (4 * e + k) ∧ f 232 (4 * e + k) ≤ 50) {s : Nat → Nat} {β : Nat → Int} (ho : okW N m K s β) (hz : β 0 = 0) {q : Int × Mt} (h : WS N m K s β q) : ∃ s' β', okW N m K s' β' ∧ β' 0 = 0 ∧ s' 0 = s 0 ∧ WS N m K s' β' (q.1, zap f p N e mm q.2) ∧ (∀ x, (s' (x + 1) : Int) = (sbm f e (s 0) mm (fun x => (s (x + 1) : Int), fun x => β (x + 1))).1 x ∧ β' (x + 1) = (sbm f e (s 0) mm (fun x => (s (x + 1) : Int), fun x => β (x + 1))).2 x) := by
  induction mm with
  | zero => exact ⟨s, β, ho, hz, rfl, h, fun x => ⟨rfl, rfl⟩⟩
  | succ mm ih =>
    obtain ⟨s1, b1, o1, z1, t1, w1, g1⟩ := ih (fun k hk => hss k (by omega))
    obtain ⟨e11, e12, c1, k0, k50⟩ := hss mm (by omega)
    have w2 := WS_set (c := (f 231 (4 * e + mm)).toNat + 1) (by omega) c1 o1 z1 (k := f 232 (4 * e + mm)) ⟨k0, k50⟩ w1
    refine ⟨fun i => if i = (f 231 (4 * e + mm)).toNat + 1 then s1 0 else s1 i, fun i => if i = (f 231 (4 * e + mm)).toNat + 1 then f 232 (4 * e + mm) else b1 i, ?_, ?_, ?_, ?_, fun x => ?_⟩
    · obtain ⟨h1, h2, h3, h4, h5, h6⟩ := o1
      refine ⟨h1, h2, h3, h4, fun i hi => ?_, fun i hi => ?_⟩
      · show (if i = (f 231 (4 * e + mm)).toNat + 1 then s1 0 else s1 i) < m
        split
        · exact h5 0 hN
        · exact h5 i hi
      · show 0 ≤ (if i = (f 231 (4 * e + mm)).toNat + 1 then f 232 (4 * e + mm) else b1 i) ∧ (if i = (f 231 (4 * e + mm)).toNat + 1 then f 232 (4 * e + mm) else b1 i) ≤ 50
        split
        · exact ⟨k0, k50⟩
        · exact h6 i hi
    · show (if 0 = (f 231 (4 * e + mm)).toNat + 1 then f 232 (4 * e + mm) else b1 0) = 0
      rw [if_neg (by omega)]; exact z1
    · show (if 0 = (f 231 (4 * e + mm)).toNat + 1 then s1 0 else s1 0) = s 0
      rw [if_neg (by omega)]; exact t1
    · have ez : zap f p N e (mm + 1) q.2 = zas N ((f (p + 11) (4 * e + mm)).toNat + 1) (am (f (p + 12) (4 * e + mm))) (am (mj_w (-(f (p + 12) (4 * e + mm))))) (zap f p N e mm q.2) := rfl
      rw [ez, e11, e12]
      exact w2
    · obtain ⟨y1, y2⟩ := g1 x
      show (((if x + 1 = (f 231 (4 * e + mm)).toNat + 1 then s1 0 else s1 (x + 1)) : Nat) : Int) = (if x = (f 231 (4 * e + mm)).toNat then ((s 0 : Nat) : Int) else (sbm f e (s 0) mm (fun x => (s (x + 1) : Int), fun x => β (x + 1))).1 x) ∧ (if x + 1 = (f 231 (4 * e + mm)).toNat + 1 then f 232 (4 * e + mm) else b1 (x + 1)) = (if x = (f 231 (4 * e + mm)).toNat then f 232 (4 * e + mm) else (sbm f e (s 0) mm (fun x => (s (x + 1) : Int), fun x => β (x + 1))).2 x)
      by_cases z : x = (f 231 (4 * e + mm)).toNat
      · rw [if_pos (by omega), if_pos z, if_pos (by omega), if_pos z, t1]
        exact ⟨rfl, rfl⟩
      · rw [if_neg (by omega), if_neg z, if_neg (by omega), if_neg z]
        exact ⟨y1, y2⟩
