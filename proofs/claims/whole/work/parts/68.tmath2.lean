/-! Times of a trace: what all of it asks; the class's square. -/
theorem rlP_c {f g : mj_F} {l a m : Nat} {s b s' b' : Nat → Int} (h5 : ∀ z, g 225 z = f 225 z) (h6 : ∀ z, g 226 z = f 226 z) (h7 : ∀ z, g 227 z = f 227 z) (hr : rOK f l m) (hs : ∀ c, c < 4 → s c = s' c ∧ b c = b' c) {D : Bt} : rlP g l a m s b D ↔ rlP f l a m s' b' D := by
  constructor
  · intro h k hk
    have := h k hk
    have r := hr k hk
    rw [h5, h6, h7, (hs (f 225 (6 * l + k)).toNat (by omega)).1, (hs (f 225 (6 * l + k)).toNat (by omega)).2] at this
    exact this
  · intro h k hk
    have := h k hk
    have r := hr k hk
    rw [h5, h6, h7, (hs (f 225 (6 * l + k)).toNat (by omega)).1, (hs (f 225 (6 * l + k)).toNat (by omega)).2]
    exact this
theorem rOK_c {f g : mj_F} {l m : Nat} (h5 : ∀ z, g 225 z = f 225 z) (h6 : ∀ z, g 226 z = f 226 z) (h7 : ∀ z, g 227 z = f 227 z) (hr : rOK f l m) : rOK g l m := fun k hk => by
  rw [h5, h6, h7]
  exact hr k hk
def lOK (f : mj_F) (p l : Nat) : Prop := ∃ m : Nat, m ≤ 6 ∧ f (p + 4) l = (m : Int) ∧ f 224 l = (m : Int) ∧ sLm f p l m ∧ rOK f l m
def eS (f : mj_F) (p e : Nat) : Prop := e < 16 ∧ (∃ l : Nat, l < 8 ∧ f (p + 9) e = (l : Int) ∧ f 229 e = (l : Int) ∧ lOK f p l) ∧ lOK f p (8 + e) ∧ ∃ m : Nat, m ≤ 4 ∧ f (p + 10) e = (m : Int) ∧ f 230 e = (m : Int) ∧ ∀ k, k < m → f (p + 11) (4 * e + k) = f 231 (4 * e + k) ∧ f (p + 12) (4 * e + k) = f 232 (4 * e + k) ∧ 0 ≤ f 231 (4 * e + k) ∧ f 231 (4 * e + k) < 4 ∧ 0 ≤ f 232 (4 * e + k) ∧ f 232 (4 * e + k) ≤ 50
/-- when clocks were set, and to what, behind the sets of an edge -/
def sbm (f : mj_F) (e mo m : Nat) (z : (Nat → Int) × (Nat → Int)) : (Nat → Int) × (Nat → Int) := itr m (fun k z => (fun c => if c = (f 231 (4 * e + k)).toNat then (mo : Int) else z.1 c, fun c => if c = (f 231 (4 * e + k)).toNat then f 232 (4 * e + k) else z.2 c)) z
def sb (f : mj_F) (ed : Nat → Nat) : Nat → (Nat → Int) × (Nat → Int)
  | 0 => (fun _ => 0, fun _ => 0)
  | i + 1 => sbm f (ed i) (i + 1) (f 230 (ed i)).toNat (sb f ed i)
def pla (f : mj_F) (ed : Nat → Nat) (st : Nat) : Nat → Nat
  | 0 => st
  | i + 1 => (f 229 (ed i)).toNat
def rlL (f : mj_F) (l a : Nat) (z : (Nat → Int) × (Nat → Int)) (D : Bt) : Prop := rlP f l a (f 224 l).toNat z.1 z.2 D
/-- what the first i edges ask -/
def PR (f : mj_F) (ed : Nat → Nat) (st : Nat) (D : Bt) : Nat → Prop
  | 0 => rlL f st 0 (sb f ed 0) D
  | i + 1 => PR f ed st D i ∧ ble (D i (i + 1)) (some 1) ∧ rlL f (pla f ed st i) (i + 1) (sb f ed i) D ∧ rlL f (8 + ed i) (i + 1) (sb f ed i) D ∧ rlL f (pla f ed st (i + 1)) (i + 1) (sb f ed (i + 1)) D
theorem sbm_ok {f : mj_F} {e mo m n : Nat} (hmo : mo < n) (hc : ∀ k, k < m → 0 ≤ f 232 (4 * e + k) ∧ f 232 (4 * e + k) ≤ 50) {z : (Nat → Int) × (Nat → Int)} (h : sOK n z.1 z.2) : sOK n (sbm f e mo m z).1 (sbm f e mo m z).2 := by
  induction m with
  | zero => exact h
  | succ m ih =>
    intro c h4
    have i1 := ih (fun k hk => hc k (by omega)) c h4
    have hcm := hc m (by omega)
    show 0 ≤ (if c = (f 231 (4 * e + m)).toNat then (mo : Int) else (sbm f e mo m z).1 c) ∧ (if c = (f 231 (4 * e + m)).toNat then (mo : Int) else (sbm f e mo m z).1 c).toNat < n ∧ 0 ≤ (if c = (f 231 (4 * e + m)).toNat then f 232 (4 * e + m) else (sbm f e mo m z).2 c) ∧ (if c = (f 231 (4 * e + m)).toNat then f 232 (4 * e + m) else (sbm f e mo m z).2 c) ≤ 50
    by_cases q : c = (f 231 (4 * e + m)).toNat
    · rw [if_pos q, if_pos q]; omega
    · rw [if_neg q, if_neg q]; exact i1
theorem sb_ok {f : mj_F} {p : Nat} {ed : Nat → Nat} {n : Nat} (hn : 0 < n) {L : Nat} (hL : L < n) (he : ∀ i, i < L → eS f p (ed i)) : ∀ i, i ≤ L → sOK n (sb f ed i).1 (sb f ed i).2 := by
  intro i
  induction i with
  | zero => exact fun _ c _ => ⟨Int.le_refl 0, hn, Int.le_refl 0, (show (0 : Int) ≤ 50 by decide)⟩
  | succ i ih =>
    intro hi
    obtain ⟨_, _, _, m, _, _, b3, b4⟩ := he i (by omega)
    show sOK n (sbm f (ed i) (i + 1) (f 230 (ed i)).toNat (sb f ed i)).1 (sbm f (ed i) (i + 1) (f 230 (ed i)).toNat (sb f ed i)).2
    rw [b3, Int.toNat_natCast]
    exact sbm_ok (by omega) (fun k hk => (b4 k hk).2.2.2.2) (ih (by omega))
theorem tkl_iff {F f : mj_F} {p l a n : Nat} (hp : pn p) (hF : ∀ x q, x ≠ 173 → x ≠ 174 → F x q = f x q) (hl : lOK f p l) {z : (Nat → Int) × (Nat → Int)} (hz : ∀ c, c < 4 → F 173 c = z.1 c ∧ F 174 c = z.2 c) (ho : sOK n z.1 z.2) (ha : a < n) {G : Mt} (hG : cLe G) {D : Bt} : Bl n D (cT (tkl F p l a G)) ↔ Bl n D (cT G) ∧ rlL f l a z D := by
  obtain ⟨m, m6, h4, h224, hs, hr⟩ := hl
  have hq : ∀ k q, k ≤ 12 → F (p + k) q = f (p + k) q := by
    intro k q hk
    refine hF _ q ?_ ?_ <;> rcases hp with rfl | rfl <;> omega
  have g : ∀ x, 224 ≤ x → ∀ q, F x q = f x q := fun x hx q => hF x q (by omega) (by omega)
  unfold tkl rlL
  rw [hq 4 l (by omega), h4, h224, Int.toNat_natCast]
  have hs' : sLm F p l m := fun k hk => by
    rw [hq 5 _ (by omega), hq 6 _ (by omega), hq 7 _ (by omega), g 225 (by omega), g 226 (by omega), g 227 (by omega)]
    exact hs k hk
  have hr' : rOK F l m := rOK_c (g 225 (by omega)) (g 226 (by omega)) (g 227 (by omega)) hr
  have ho' : sOK n (F 173) (F 174) := fun c hc => by
    rw [(hz c hc).1, (hz c hc).2]
    exact ho c hc
  rw [tkm_iff hs' hr' ho' ha hG, rlP_c (g 225 (by omega)) (g 226 (by omega)) (g 227 (by omega)) hr hz]
theorem stM_sb {F f : mj_F} {p e mo m : Nat} (h11 : ∀ k, k < m → (F (p + 11) (4 * e + k)) = f 231 (4 * e + k) ∧ F (p + 12) (4 * e + k) = f 232 (4 * e + k)) {z : (Nat → Int) × (Nat → Int)} (hz : ∀ c, c < 4 → F 173 c = z.1 c ∧ F 174 c = z.2 c) : ∀ c, c < 4 → stM F p e mo m 173 c = (sbm f e mo m z).1 c ∧ stM F p e mo m 174 c = (sbm f e mo m z).2 c := by
  induction m with
  | zero => exact hz
  | succ m ih =>
    intro c hc
    obtain ⟨i1, i2⟩ := ih (fun k hk => h11 k (by omega)) c hc
    obtain ⟨e1, e2⟩ := h11 m (by omega)
    have es : stM F p e mo (m + 1) = mj_u (mj_u (stM F p e mo m) 173 (F (p + 11) (4 * e + m)).toNat (mo : Int)) 174 (F (p + 11) (4 * e + m)).toNat (F (p + 12) (4 * e + m)) := rfl
    rw [es, e1, e2]
    show _ = (if c = (f 231 (4 * e + m)).toNat then (mo : Int) else (sbm f e mo m z).1 c) ∧ _ = (if c = (f 231 (4 * e + m)).toNat then f 232 (4 * e + m) else (sbm f e mo m z).2 c)
    rw [u_o (Or.inl (by decide))]
    unfold mj_u
    by_cases q : c = (f 231 (4 * e + m)).toNat
    · rw [if_pos ⟨rfl, q⟩, if_pos q, if_pos ⟨rfl, q⟩, if_pos q]
      exact ⟨rfl, rfl⟩
    · rw [if_neg (fun y => q y.2), if_neg q, if_neg (fun y => q y.2), if_neg q, if_neg (fun y => absurd y.1 (by decide))]
      exact ⟨i1, i2⟩
/-- the class's square of times asks what the trace asks -/
theorem tb_inv {f : mj_F} {p L st : Nat} (hp : pn p) (hst : f p 4 = (st : Int)) (os : lOK f p st) {ed : Nat → Nat} (hed : ∀ i, i < L → f 169 i = (ed i : Int)) (he : ∀ i, i < L → eS f p (ed i)) (hch : ∀ i, i < L → f (p + 8) (ed i) = (pla f ed st i : Int)) (hlk : ∀ i, i ≤ L → lOK f p (pla f ed st i)) : ∀ i, i ≤ L → (∀ x q, x ≠ 173 → x ≠ 174 → (itr i (fun i S => tbI f p i S) (tb0 f, tkl (tb0 f) p (f p 4).toNat 0 (dgI (L + 1)))).1 x q = f x q) ∧ (∀ c, c < 4 → (itr i (fun i S => tbI f p i S) (tb0 f, tkl (tb0 f) p (f p 4).toNat 0 (dgI (L + 1)))).1 173 c = (sb f ed i).1 c ∧ (itr i (fun i S => tbI f p i S) (tb0 f, tkl (tb0 f) p (f p 4).toNat 0 (dgI (L + 1)))).1 174 c = (sb f ed i).2 c) ∧ cLe (itr i (fun i S => tbI f p i S) (tb0 f, tkl (tb0 f) p (f p 4).toNat 0 (dgI (L + 1)))).2 ∧ ∀ D, Cl (L + 1) D → (Bl (L + 1) D (cT (itr i (fun i S => tbI f p i S) (tb0 f, tkl (tb0 f) p (f p 4).toNat 0 (dgI (L + 1)))).2) ↔ PR f ed st D i) := by
  have hsb := sb_ok (n := L + 1) (by omega) (by omega) he
  intro i
  induction i with
  | zero =>
    intro _
    have hz : ∀ c, c < 4 → tb0 f 173 c = (sb f ed 0).1 c ∧ tb0 f 174 c = (sb f ed 0).2 c := fun c hc => tb0_z hc
    have hdg : cLe (dgI (L + 1)) := fun i j => by
      unfold dgI
      split <;> decide
    refine ⟨fun x q h1 h2 => tb0_o h1 h2, hz, ?_, fun D hd => ?_⟩
    · exact tkm_le hdg
    · show Bl (L + 1) D (cT (tkl (tb0 f) p (f p 4).toNat 0 (dgI (L + 1)))) ↔ rlL f st 0 (sb f ed 0) D
      rw [hst, Int.toNat_natCast, tkl_iff hp (fun x q h1 h2 => tb0_o h1 h2) os hz (hsb 0 (by omega)) (by omega) hdg]
      refine ⟨fun h => h.2, fun h => ⟨fun i j hi hj => ?_, h⟩⟩
      show ble (D i j) (cv (dgI (L + 1) i j))
      unfold dgI
      split
      · next e => rw [e.1, hd.1 j hj]; exact Int.le_refl 1
      · exact trivial
  | succ i ih =>
    intro hi
    obtain ⟨h1, h2, h3, h4⟩ := ih (by omega)
    have hes := he i (by omega)
    obtain ⟨a1, ⟨l2, a2, a3, a4, a5⟩, a6, m, m4, b1, b2, b3⟩ := hes
    have ex : itr (i + 1) (fun i S => tbI f p i S) (tb0 f, tkl (tb0 f) p (f p 4).toNat 0 (dgI (L + 1))) = tbI f p i (itr i (fun i S => tbI f p i S) (tb0 f, tkl (tb0 f) p (f p 4).toNat 0 (dgI (L + 1)))) := rfl
    rw [ex]
    generalize itr i (fun i S => tbI f p i S) (tb0 f, tkl (tb0 f) p (f p 4).toNat 0 (dgI (L + 1))) = S at h1 h2 h3 h4 ⊢
    have hq : ∀ k q, k ≤ 12 → S.1 (p + k) q = f (p + k) q := by
      intro k q hk
      refine h1 _ q ?_ ?_ <;> rcases hp with rfl | rfl <;> omega
    have epl : pla f ed st (i + 1) = l2 := by
      show (f 229 (ed i)).toNat = l2
      rw [a4, Int.toNat_natCast]
    have eI : tbI f p i S = (stM S.1 p (ed i) (i + 1) m, tkl (stM S.1 p (ed i) (i + 1) m) p l2 (i + 1) (tkl S.1 p (8 + ed i) (i + 1) (tkl S.1 p (pla f ed st i) (i + 1) (lwI S.2 i (i + 1) 1)))) := by
      unfold tbI teG teF
      rw [hed i (by omega), Int.toNat_natCast, hch i (by omega), a3, Int.toNat_natCast, Int.toNat_natCast, hq 10 _ (by omega), b1, Int.toNat_natCast]
      rfl
    rw [eI]
    have g1 : ∀ x q, x ≠ 173 → x ≠ 174 → stM S.1 p (ed i) (i + 1) m x q = f x q := fun x q y1 y2 => (stM_o y1 y2).trans (h1 x q y1 y2)
    have g2 : ∀ c, c < 4 → stM S.1 p (ed i) (i + 1) m 173 c = (sb f ed (i + 1)).1 c ∧ stM S.1 p (ed i) (i + 1) m 174 c = (sb f ed (i + 1)).2 c := by
      have := stM_sb (F := S.1) (f := f) (p := p) (e := ed i) (mo := i + 1) (m := m) (fun k hk => by
        rw [hq 11 _ (by omega), hq 12 _ (by omega)]
        exact ⟨(b3 k hk).1, (b3 k hk).2.1⟩) h2
      have es : sb f ed (i + 1) = sbm f (ed i) (i + 1) m (sb f ed i) := by
        show sbm f (ed i) (i + 1) (f 230 (ed i)).toNat (sb f ed i) = _
        rw [b2, Int.toNat_natCast]
      rw [es]
      exact this
    have c1 : cLe (lwI S.2 i (i + 1) 1) := lwI_le h3
    have c2 : cLe (tkl S.1 p (pla f ed st i) (i + 1) (lwI S.2 i (i + 1) 1)) := tkm_le c1
    have c3 : cLe (tkl S.1 p (8 + ed i) (i + 1) (tkl S.1 p (pla f ed st i) (i + 1) (lwI S.2 i (i + 1) 1))) := tkm_le c2
    refine ⟨g1, g2, tkm_le c3, fun D hd => ?_⟩
    show Bl (L + 1) D (cT (tkl (stM S.1 p (ed i) (i + 1) m) p l2 (i + 1) _)) ↔ PR f ed st D i ∧ ble (D i (i + 1)) (some 1) ∧ rlL f (pla f ed st i) (i + 1) (sb f ed i) D ∧ rlL f (8 + ed i) (i + 1) (sb f ed i) D ∧ rlL f (pla f ed st (i + 1)) (i + 1) (sb f ed (i + 1)) D
    rw [tkl_iff hp g1 a5 g2 (hsb (i + 1) (by omega)) (by omega) c3, tkl_iff hp h1 a6 h2 (hsb i (by omega)) (by omega) c2, tkl_iff hp h1 (hlk i (by omega)) h2 (hsb i (by omega)) (by omega) c1, lwI_cT h3, Bl_low (by omega) (by omega), h4 D hd, epl]
    have e1 : cv 1 = some 1 := rfl
    rw [e1]
    constructor
    · intro ⟨⟨⟨⟨x1, x2⟩, x3⟩, x4⟩, x5⟩; exact ⟨x1, x2, x3, x4, x5⟩
    · intro ⟨x1, x2, x3, x4, x5⟩; exact ⟨⟨⟨⟨x1, x2⟩, x3⟩, x4⟩, x5⟩
