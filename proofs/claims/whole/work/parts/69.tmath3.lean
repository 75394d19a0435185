/-! Times of a trace: the reference's square. -/
theorem hol_iff {F f : mj_F} {p l a n : Nat} (hF : ∀ x q, x ≠ 255 → x ≠ 256 → x ≠ 257 → x ≠ 258 → F x q = f x q) (hl : lOK f p l) {z : (Nat → Int) × (Nat → Int)} (hz : ∀ c, c < 4 → F 255 c = z.1 c ∧ F 256 c = z.2 c) (ho : sOK n z.1 z.2) (ha : a < n) {q : Int × Mt} (hv : q.1 = 0 ∨ q.1 = 1) {D : Bt} (hd : Cl n D) : ((hol F l a q).1 = 0 ∧ Bl n D (rT (hol F l a q).2)) ↔ (q.1 = 0 ∧ Bl n D (rT q.2)) ∧ rlL f l a z D := by
  obtain ⟨m, m6, h4, h224, hs, hr⟩ := hl
  have g : ∀ x, x < 255 → ∀ q, F x q = f x q := fun x hx q => hF x q (by omega) (by omega) (by omega) (by omega)
  unfold hol rlL
  rw [g 224 (by omega), h224, Int.toNat_natCast]
  have hr' : rOK F l m := rOK_c (g 225 (by omega)) (g 226 (by omega)) (g 227 (by omega)) hr
  have ho' : sOK n (F 255) (F 256) := fun c hc => by
    rw [(hz c hc).1, (hz c hc).2]
    exact ho c hc
  rw [hom_iff hr' ho' ha hv hd, rlP_c (g 225 (by omega)) (g 226 (by omega)) (g 227 (by omega)) hr hz]
/-- the square stays small -/
def sqK (n : Nat) (A : Mt) : Prop := NI n A ∧ Bb n 102 (rT A) ∧ ∀ i, i < n → A i i ≤ 1
theorem hom_K {F : mj_F} {l a m n : Nat} (hr : rOK F l m) (ho : sOK n (F 255) (F 256)) {q : Int × Mt} (h : sqK n q.2) : sqK n (hom F l a m q).2 := by
  induction m with
  | zero => exact h
  | succ m ih =>
    have i1 := ih (fun k hk => hr k (by omega))
    have r := hr m (by omega)
    have o := ho (F 225 (6 * l + m)).toNat (by omega)
    show sqK n (hst F (6 * l + m) a (hom F l a m q)).2
    unfold hst
    split
    · exact i1
    · have hx : -50 ≤ F 227 (6 * l + m) - F 256 (F 225 (6 * l + m)).toNat ∧ F 227 (6 * l + m) - F 256 (F 225 (6 * l + m)).toNat ≤ 50 := by omega
      show sqK n (rmt _ _ _ _ (hom F l a m q).2)
      rw [w_id (by omega)]
      refine ⟨rmt_ni (by omega) i1.1, ?_, fun i hi => Int.le_trans (rmt_le i i) (i1.2.2 i hi)⟩
      rw [rT_rmt ⟨r.2.2.1, r.2.2.2.1⟩ (by omega)]
      exact Bb_lowR (by omega) (by omega) i1.2.1
theorem hol_K {F f : mj_F} {p l a n : Nat} (hF : ∀ x q, x ≠ 255 → x ≠ 256 → x ≠ 257 → x ≠ 258 → F x q = f x q) (hl : lOK f p l) {z : (Nat → Int) × (Nat → Int)} (hz : ∀ c, c < 4 → F 255 c = z.1 c ∧ F 256 c = z.2 c) (ho : sOK n z.1 z.2) {q : Int × Mt} (h : sqK n q.2) : sqK n (hol F l a q).2 := by
  obtain ⟨m, m6, h4, h224, hs, hr⟩ := hl
  have g : ∀ x, x < 255 → ∀ q, F x q = f x q := fun x hx q => hF x q (by omega) (by omega) (by omega) (by omega)
  unfold hol
  rw [g 224 (by omega), h224, Int.toNat_natCast]
  refine hom_K (rOK_c (g 225 (by omega)) (g 226 (by omega)) (g 227 (by omega)) hr) (fun c hc => ?_) h
  rw [(hz c hc).1, (hz c hc).2]
  exact ho c hc
theorem tg_K {n i j : Nat} {A : Mt} (h : sqK n A) : sqK n (tg A i j 1) := by
  refine ⟨tg_ni (by decide) h.1, ?_, fun x hx => Int.le_trans (tg_le A i j 1 x x) (h.2.2 x hx)⟩
  rw [rv_tg (by decide)]
  exact Bb_low h.2.1 (fun x hx => by have := Option.some.inj hx; omega)
theorem srF_sb {F f : mj_F} {e mo m : Nat} (h11 : ∀ k, k < m → F 231 (4 * e + k) = f 231 (4 * e + k) ∧ F 232 (4 * e + k) = f 232 (4 * e + k)) {z : (Nat → Int) × (Nat → Int)} (hz : ∀ c, c < 4 → F 255 c = z.1 c ∧ F 256 c = z.2 c) : ∀ c, c < 4 → srF F e mo m 255 c = (sbm f e mo m z).1 c ∧ srF F e mo m 256 c = (sbm f e mo m z).2 c := by
  induction m with
  | zero => exact hz
  | succ m ih =>
    intro c hc
    obtain ⟨i1, i2⟩ := ih (fun k hk => h11 k (by omega)) c hc
    obtain ⟨e1, e2⟩ := h11 m (by omega)
    have es : srF F e mo (m + 1) = mj_u (mj_u (srF F e mo m) 255 (F 231 (4 * e + m)).toNat (mo : Int)) 256 (F 231 (4 * e + m)).toNat (F 232 (4 * e + m)) := rfl
    rw [es, e1, e2]
    show _ = (if c = (f 231 (4 * e + m)).toNat then (mo : Int) else (sbm f e mo m z).1 c) ∧ _ = (if c = (f 231 (4 * e + m)).toNat then f 232 (4 * e + m) else (sbm f e mo m z).2 c)
    rw [u_o (Or.inl (by decide))]
    unfold mj_u
    by_cases q : c = (f 231 (4 * e + m)).toNat
    · rw [if_pos ⟨rfl, q⟩, if_pos q, if_pos ⟨rfl, q⟩, if_pos q]
      exact ⟨rfl, rfl⟩
    · rw [if_neg (fun y => q y.2), if_neg q, if_neg (fun y => q y.2), if_neg q, if_neg (fun y => absurd y.1 (by decide))]
      exact ⟨i1, i2⟩
/-- row 0 of a table is at most 0 -/
theorem wide_iff {n : Nat} {B : Mt} {D : Bt} (hd : Cl n D) : Bl n D (rT (sqn n wdM B)) ↔ Zr n D := by
  constructor
  · intro h j hj
    have := h 0 j (by omega) hj
    have e : rT (sqn n wdM B) 0 j = some 1 := by
      show rv (sqn n wdM B 0 j) = some 1
      rw [sqn_in (by omega) hj]
      unfold wdM
      rw [if_pos (Or.inl rfl)]
      rfl
    rw [e] at this
    exact this
  · intro h i j hi hj
    show ble (D i j) (rv (sqn n wdM B i j))
    rw [sqn_in hi hj]
    unfold wdM
    by_cases z : i = 0 ∨ i = j
    · rw [if_pos z]
      rcases z with z | z
      · rw [z]; exact h j hj
      · rw [z, hd.1 j hj]; exact Int.le_refl 1
    · rw [if_neg z, rv_n (by decide)]
      exact trivial
theorem wide_K {n : Nat} {B : Mt} : sqK n (sqn n wdM B) := by
  have e : ∀ i j, i < n → j < n → sqn n wdM B i j = 1 ∨ (sqn n wdM B i j = 1000000 ∧ i ≠ j) := by
    intro i j hi hj
    rw [sqn_in hi hj]
    unfold wdM
    by_cases z : i = 0 ∨ i = j
    · exact Or.inl (if_pos z)
    · exact Or.inr ⟨if_neg z, fun q => z (Or.inr q)⟩
  refine ⟨fun i j hi hj => ?_, fun i j x hi hj hx => ?_, fun i hi => ?_⟩
  · rcases e i j hi hj with z | z
    · rw [z]; decide
    · rw [z.1]; decide
  · have hx := rv_i hx
    rcases e i j hi hj with z | z
    · omega
    · omega
  · rcases e i i hi hi with z | z
    · omega
    · exact absurd rfl z.2
/-- the reference's square of times asks what the trace asks, and row 0 -/
theorem lt_inv {f : mj_F} {p r1 x2 many st : Nat} (os : lOK f p st) {ed : Nat → Nat} (hed : ∀ i, i < many → f r1 (x2 + i) = (ed i : Int)) (he : ∀ i, i < many → eS f p (ed i)) (hlk : ∀ i, i ≤ many → lOK f p (pla f ed st i)) : ∀ i, i ≤ many → (∀ x q, x ≠ 255 → x ≠ 256 → x ≠ 257 → x ≠ 258 → (ltS f r1 x2 many st i).1 x q = f x q) ∧ (∀ c, c < 4 → (ltS f r1 x2 many st i).1 255 c = (sb f ed i).1 c ∧ (ltS f r1 x2 many st i).1 256 c = (sb f ed i).2 c) ∧ ((ltS f r1 x2 many st i).2.1.1 = 0 ∨ (ltS f r1 x2 many st i).2.1.1 = 1) ∧ (ltS f r1 x2 many st i).2.2 = pla f ed st i ∧ sqK (many + 1) (ltS f r1 x2 many st i).2.1.2 ∧ ∀ D, Cl (many + 1) D → ((ltS f r1 x2 many st i).2.1.1 = 0 ∧ Bl (many + 1) D (rT (ltS f r1 x2 many st i).2.1.2) ↔ Zr (many + 1) D ∧ PR f ed st D i) := by
  have hsb := sb_ok (n := many + 1) (by omega) (by omega) he
  intro i
  induction i with
  | zero =>
    intro _
    have hF : ∀ x q, x ≠ 255 → x ≠ 256 → x ≠ 257 → x ≠ 258 → zrF f 4 x q = f x q := fun x q h5 h6 _ _ => zrF_o h5 h6
    have hz : ∀ c, c < 4 → zrF f 4 255 c = (sb f ed 0).1 c ∧ zrF f 4 256 c = (sb f ed 0).2 c := fun c hc => zrF_z hc
    refine ⟨hF, hz, hol_01 (Or.inl rfl), rfl, hol_K hF os hz (hsb 0 (by omega)) wide_K, fun D hd => ?_⟩
    show (hol (zrF f 4) st 0 (0, sqn (many + 1) wdM (gm 252 62 f))).1 = 0 ∧ Bl (many + 1) D (rT (hol (zrF f 4) st 0 (0, sqn (many + 1) wdM (gm 252 62 f))).2) ↔ Zr (many + 1) D ∧ rlL f st 0 (sb f ed 0) D
    rw [hol_iff hF os hz (hsb 0 (by omega)) (by omega) (Or.inl rfl) hd]
    show ((0 : Int) = 0 ∧ Bl (many + 1) D (rT (sqn (many + 1) wdM (gm 252 62 f)))) ∧ _ ↔ _
    rw [wide_iff hd]
    exact ⟨fun h => ⟨h.1.2, h.2⟩, fun h => ⟨⟨rfl, h.1⟩, h.2⟩⟩
  | succ i ih =>
    intro hi
    obtain ⟨h1, h2, h3, h4, h5, h6⟩ := ih (by omega)
    obtain ⟨a1, ⟨l2, a2, a3, a4, a5⟩, a6, m, m4, b1, b2, b3⟩ := he i (by omega)
    have es : ltS f r1 x2 many st (i + 1) = ltI f r1 x2 i (ltS f r1 x2 many st i) := rfl
    rw [es]
    generalize ltS f r1 x2 many st i = S at h1 h2 h3 h4 h5 h6 ⊢
    have epl : pla f ed st (i + 1) = l2 := by
      show (f 229 (ed i)).toNat = l2
      rw [a4, Int.toNat_natCast]
    have eF : ltF S.1 (ed i) i = srF (svF S.1 i 4) (ed i) (i + 1) m := by
      unfold ltF
      rw [h1 230 _ (by decide) (by decide) (by decide) (by decide), b2, Int.toNat_natCast]
    have eI : ltI f r1 x2 i S = (ltF S.1 (ed i) i, ltQ S.1 (ed i) (pla f ed st i) l2 i S.2.1, l2) := by
      unfold ltI
      rw [hed i (by omega), Int.toNat_natCast, a4, Int.toNat_natCast, h4]
    rw [eI, epl]
    have f1 : ∀ x q, x ≠ 255 → x ≠ 256 → x ≠ 257 → x ≠ 258 → svF S.1 i 4 x q = f x q := fun x q y5 y6 y7 y8 => (svF_o y7 y8).trans (h1 x q y5 y6 y7 y8)
    have f2 : ∀ c, c < 4 → svF S.1 i 4 255 c = (sb f ed i).1 c ∧ svF S.1 i 4 256 c = (sb f ed i).2 c := fun c hc => by
      rw [svF_o (by decide) (by decide), svF_o (by decide) (by decide)]
      exact h2 c hc
    have g1 : ∀ x q, x ≠ 255 → x ≠ 256 → x ≠ 257 → x ≠ 258 → ltF S.1 (ed i) i x q = f x q := fun x q y5 y6 y7 y8 => (ltF_o y5 y6 y7 y8).trans (h1 x q y5 y6 y7 y8)
    have g2 : ∀ c, c < 4 → ltF S.1 (ed i) i 255 c = (sb f ed (i + 1)).1 c ∧ ltF S.1 (ed i) i 256 c = (sb f ed (i + 1)).2 c := by
      have t := srF_sb (F := svF S.1 i 4) (f := f) (e := ed i) (mo := i + 1) (m := m) (fun k hk => by
        rw [f1 231 _ (by decide) (by decide) (by decide) (by decide), f1 232 _ (by decide) (by decide) (by decide) (by decide)]
        exact ⟨rfl, rfl⟩) f2
      have es2 : sb f ed (i + 1) = sbm f (ed i) (i + 1) m (sb f ed i) := by
        show sbm f (ed i) (i + 1) (f 230 (ed i)).toNat (sb f ed i) = _
        rw [b2, Int.toNat_natCast]
      rw [eF, es2]
      exact t
    have q1 : (S.2.1.1, tg S.2.1.2 i (i + 1) 1).1 = 0 ∨ (S.2.1.1, tg S.2.1.2 i (i + 1) 1).1 = 1 := h3
    have q2 := hol_01 (f := svF S.1 i 4) (l := pla f ed st i) (at_ := i + 1) q1
    have q3 := hol_01 (f := svF S.1 i 4) (l := 8 + ed i) (at_ := i + 1) q2
    have k1 : sqK (many + 1) (S.2.1.1, tg S.2.1.2 i (i + 1) 1).2 := tg_K h5
    have k2 := hol_K (a := i + 1) f1 (hlk i (by omega)) f2 (hsb i (by omega)) k1
    have k3 := hol_K (a := i + 1) f1 a6 f2 (hsb i (by omega)) k2
    refine ⟨g1, g2, hol_01 q3, rfl, hol_K g1 a5 g2 (hsb (i + 1) (by omega)) k3, fun D hd => ?_⟩
    show (hol (ltF S.1 (ed i) i) l2 (i + 1) _).1 = 0 ∧ Bl (many + 1) D (rT (hol (ltF S.1 (ed i) i) l2 (i + 1) _).2) ↔ Zr (many + 1) D ∧ PR f ed st D i ∧ ble (D i (i + 1)) (some 1) ∧ rlL f (pla f ed st i) (i + 1) (sb f ed i) D ∧ rlL f (8 + ed i) (i + 1) (sb f ed i) D ∧ rlL f (pla f ed st (i + 1)) (i + 1) (sb f ed (i + 1)) D
    rw [hol_iff g1 a5 g2 (hsb (i + 1) (by omega)) (by omega) q3 hd, hol_iff f1 a6 f2 (hsb i (by omega)) (by omega) q2 hd, hol_iff f1 (hlk i (by omega)) f2 (hsb i (by omega)) (by omega) q1 hd]
    show (((S.2.1.1 = 0 ∧ Bl (many + 1) D (rT (tg S.2.1.2 i (i + 1) 1))) ∧ _) ∧ _) ∧ _ ↔ _
    rw [rv_tg (by decide), Bl_low (by omega) (by omega), epl]
    have h6D := h6 D hd
    constructor
    · intro ⟨⟨⟨⟨x0, x1, x2⟩, x3⟩, x4⟩, x5⟩
      obtain ⟨y1, y2⟩ := h6D.1 ⟨x0, x1⟩
      exact ⟨y1, y2, x2, x3, x4, x5⟩
    · intro ⟨y1, y2, x2, x3, x4, x5⟩
      obtain ⟨x0, x1⟩ := h6D.2 ⟨y1, y2⟩
      exact ⟨⟨⟨⟨x0, x1, x2⟩, x3⟩, x4⟩, x5⟩
