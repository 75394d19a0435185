/-! One edge of a walk. -/
def WI (f : mj_F) (ed : Nat → Nat) (st N i : Nat) (q : Int × Mt) : Prop := ∃ K s β, okW N (i + 1) K s β ∧ β 0 = 0 ∧ s 0 = i ∧ WS N (i + 1) K s β q ∧ (∀ x, ((s (x + 1) : Nat) : Int) = (sb f ed i).1 x ∧ β (x + 1) = (sb f ed i).2 x) ∧ ∀ D, Cl (i + 1) D → (Bl (i + 1) D K ↔ PR f ed st D i)
theorem okW_up {N m : Nat} (hm : 0 < m) (h60 : m + 1 ≤ 60) {K : Bt} {s : Nat → Nat} {β : Nat → Int} (h : okW N m K s β) : okW N (m + 1) (exK m K) (fun i => if i = 0 then m else s i) β := by
  obtain ⟨h1, h2, h3, h4, h5, h6⟩ := h
  refine ⟨h1, h60, fun i j x hi hj hx => ?_, fun x hx => ?_, fun i hi => ?_, h6⟩
  · unfold exK at hx
    split at hx
    · split at hx
      · have := Option.some.inj hx; omega
      · cases hx
    · split at hx
      · split at hx
        · have := Option.some.inj hx; omega
        · cases hx
      · exact h3 i j x (by omega) (by omega) hx
  · unfold exK
    split
    · exact ble_r _
    · exact h4 x (by omega)
  · show (if i = 0 then m else s i) < m + 1
    split
    · omega
    · have := h5 i hi; omega
theorem rlP_s {f : mj_F} {l a m : Nat} {s b s' b' : Nat → Int} (hs : ∀ c, s c = s' c ∧ b c = b' c) {D : Bt} : rlP f l a m s b D ↔ rlP f l a m s' b' D := by
  have e1 : s = s' := funext (fun c => (hs c).1)
  have e2 : b = b' := funext (fun c => (hs c).2)
  rw [e1, e2]
/-- list l is the same in both, for clocks below N - 1 -/
def lN1 (f : mj_F) (p N l : Nat) : Prop := ∃ m : Nat, f (p + 4) l = (m : Int) ∧ f 224 l = (m : Int) ∧ sLm f p l m ∧ rOK f l m ∧ ∀ k, k < m → (f 225 (6 * l + k)).toNat + 1 < N
theorem WS_keep {f : mj_F} {p N m l : Nat} {s : Nat → Nat} {β : Nat → Int} (hN : 0 < N) (hl : lN1 f p N l) (hz : β 0 = 0) {K : Bt} (ho : okW N m K s β) {q : Int × Mt} (h : WS N m K s β q) {z : (Nat → Int) × (Nat → Int)} (hsb : ∀ x, ((s (x + 1) : Nat) : Int) = z.1 x ∧ β (x + 1) = z.2 x) : ∃ K', okW N m K' s β ∧ WS N m K' s β (zkl f p N l q) ∧ ∀ D, Bl m D K' ↔ Bl m D K ∧ rlL f l (s 0) z D := by
  obtain ⟨mm, h4, h224, hs, hr, hc⟩ := hl
  obtain ⟨K', o, w, b⟩ := WS_rules hN hs hr hc hz ho h
  refine ⟨K', o, ?_, fun D => ?_⟩
  · unfold zkl
    rw [h4, Int.toNat_natCast]
    exact w
  · rw [b D]
    unfold rlL
    rw [h224, Int.toNat_natCast]
    exact and_congr Iff.rfl (rlP_s hsb)
/-- what goAlong does to flag and square -/
def wgo (f : mj_F) (p N e l1 l2 : Nat) (q : Int × Mt) : Int × Mt := zkl f p N l2 ((zkl f p N (8 + e) (zkl f p N l1 (q.1, zup N q.2))).1, zae f p N e (zkl f p N (8 + e) (zkl f p N l1 (q.1, zup N q.2))).2)
theorem WI_S {f : mj_F} {p N i : Nat} {ed : Nat → Nat} {st : Nat} (hN : 0 < N) (hi : i + 2 ≤ 60) (o1 : lN1 f p N (pla f ed st i)) (o2 : lN1 f p N (8 + ed i)) (o3 : lN1 f p N (pla f ed st (i + 1))) (oe : ∃ m : Nat, f (p + 10) (ed i) = (m : Int) ∧ f 230 (ed i) = (m : Int) ∧ ∀ k, k < m → f (p + 11) (4 * ed i + k) = f 231 (4 * ed i + k) ∧ f (p + 12) (4 * ed i + k) = f 232 (4 * ed i + k) ∧ (f 231 (4 * ed i + k)).toNat + 1 < N ∧ 0 ≤ f 232 (4 * ed i + k) ∧ f 232 (4 * ed i + k) ≤ 50) {q : Int × Mt} (h : WI f ed st N i q) : WI f ed st N (i + 1) (wgo f p N (ed i) (pla f ed st i) (pla f ed st (i + 1)) q) := by
  obtain ⟨K, s, β, ow, hz, hs0, hw, hsb, hK⟩ := h
  obtain ⟨m, b1, b2, b3⟩ := oe
  have w1 := WS_up (m := i + 1) (by omega) ow.2.2.2.2.1 (by omega) hw
  have ow1 := okW_up (m := i + 1) (by omega) (by omega) ow
  have hs1 : ∀ x, (((fun j => if j = 0 then i + 1 else s j) (x + 1) : Nat) : Int) = (sb f ed i).1 x ∧ β (x + 1) = (sb f ed i).2 x := fun x => hsb x
  obtain ⟨K2, ow2, w2, p2⟩ := WS_keep hN o1 hz ow1 w1 hs1
  obtain ⟨K3, ow3, w3, p3⟩ := WS_keep hN o2 hz ow2 w2 hs1
  obtain ⟨s', β', ow4, z4, t4, w4, g4⟩ := WS_sets (e := ed i) hN b3 ow3 hz w3
  have es : sb f ed (i + 1) = sbm f (ed i) (i + 1) m (sb f ed i) := by
    show sbm f (ed i) (i + 1) (f 230 (ed i)).toNat (sb f ed i) = _
    rw [b2, Int.toNat_natCast]
  have e0 : ((fun x => (((fun j => if j = 0 then i + 1 else s j) (x + 1) : Nat) : Int)), (fun x => β (x + 1))) = ((sb f ed i).1, (sb f ed i).2) := Prod.ext (funext (fun x => (hs1 x).1)) (funext (fun x => (hs1 x).2))
  have g5 : ∀ x, ((s' (x + 1) : Nat) : Int) = (sb f ed (i + 1)).1 x ∧ β' (x + 1) = (sb f ed (i + 1)).2 x := by
    intro x
    have t := g4 x
    rw [e0] at t
    rw [es]
    exact t
  obtain ⟨K5, ow5, w5, p5⟩ := WS_keep hN o3 z4 ow4 w4 g5
  have hs' : s' 0 = i + 1 := t4
  refine ⟨K5, s', β', ow5, z4, hs', ?_, g5, fun D hd => ?_⟩
  · unfold wgo zae
    rw [b1, Int.toNat_natCast]
    exact w5
  · show _ ↔ PR f ed st D i ∧ ble (D i (i + 1)) (some 1) ∧ rlL f (pla f ed st i) (i + 1) (sb f ed i) D ∧ rlL f (8 + ed i) (i + 1) (sb f ed i) D ∧ rlL f (pla f ed st (i + 1)) (i + 1) (sb f ed (i + 1)) D
    rw [p5 D, p3 D, p2 D, exK_iff (by omega) hd, hK D (Cl_sub (by omega) hd), hs']
    show (((PR f ed st D i ∧ ble (D i (i + 1)) (some 1)) ∧ rlL f (pla f ed st i) (i + 1) (sb f ed i) D) ∧ rlL f (8 + ed i) (i + 1) (sb f ed i) D) ∧ _ ↔ _
    constructor
    · intro ⟨⟨⟨⟨x1, x2⟩, x3⟩, x4⟩, x5⟩; exact ⟨x1, x2, x3, x4, x5⟩
    · intro ⟨x1, x2, x3, x4, x5⟩; exact ⟨⟨⟨⟨x1, x2⟩, x3⟩, x4⟩, x5⟩
