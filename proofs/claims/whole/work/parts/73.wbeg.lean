/-! A walk begins. -/
theorem WI_0 {f : mj_F} {p N : Nat} {ed : Nat → Nat} {st : Nat} (hN : 0 < N) (h6 : N ≤ 6) (os : lN1 f p N st) : WI f ed st N 0 (zkl f p N st (0, fun _ _ => 1)) := by
  have hc : Cl 1 (fun _ _ => some 1 : Bt) := ⟨fun _ _ => rfl, fun i j k _ _ _ => by
    show (1 : Int) ≤ pz 1 1
    decide⟩
  have ho : okW N 1 (fun _ _ => some 1 : Bt) (fun _ => 0) (fun _ => 0) := ⟨h6, by decide, fun i j x _ _ hx => by have := Option.some.inj hx; omega, fun _ _ => ble_r _, fun _ _ => Nat.zero_lt_one, fun _ _ => ⟨Int.le_refl 0, (show (0 : Int) ≤ 50 by decide)⟩⟩
  have hw : WS N 1 (fun _ _ => some 1 : Bt) (fun _ => 0) (fun _ => 0) (0, fun _ _ => 1) := Or.inr ⟨rfl, fun i j _ _ => ⟨by show (-100000000 : Int) < 1; decide, by show (1 : Int) ≤ 268435456; decide, Or.inl (by show (1 : Int) < 100000000; decide)⟩, _, Gr_self hc, fun i j _ _ => rfl⟩
  obtain ⟨K', o, w, b⟩ := WS_keep (s := fun _ => 0) (β := fun _ => 0) (z := sb f ed 0) hN os rfl ho hw (fun x => ⟨rfl, rfl⟩)
  refine ⟨K', fun _ => 0, fun _ => 0, o, rfl, rfl, w, fun x => ⟨rfl, rfl⟩, fun D hd => ?_⟩
  rw [b D]
  refine ⟨fun h => h.2, fun h => ⟨fun i j hi hj => ?_, h⟩⟩
  rw [show i = 0 by omega, show j = 0 by omega, hd.1 0 (by omega)]
  exact ble_r _
