/-! The relation of both sides, on one memory: the class below 223, the reference from 223 on. -/
/-- the same plan -/
def RA (sw : Bool) (f : mj_F) (c np ne st : Nat) : Prop :=
  (c ≤ 4 ∧ np ≤ 8 ∧ ne ≤ 16 ∧ st < 8 ∧ (np = 0 ∨ st < np) ∧ ∀ e, e < ne → ∀ k k' : Nat, k < k' → (k' : Int) < f 230 e → f 231 (4 * e + k) ≠ f 231 (4 * e + k')) ∧
  (f (pl sw) 0 = f 223 1 ∧ f (pl sw) 1 = (c : Int) ∧ f 223 2 = (c : Int) ∧ f (pl sw) 2 = (np : Int) ∧ f 223 3 = (np : Int) ∧ f (pl sw) 3 = (ne : Int) ∧ f 223 4 = (ne : Int) ∧ f (pl sw) 4 = (st : Int) ∧ f 223 5 = (st : Int)) ∧
  (∀ l, l < np → sL f (pl sw) (c + 1) l) ∧
  (∀ e, e < ne → sL f (pl sw) (c + 1) (8 + e) ∧ sS f (pl sw) (c + 1) e ∧ ∃ a b : Nat, a < np ∧ b < np ∧ f (pl sw + 8) e = (a : Int) ∧ f 228 e = (a : Int) ∧ f (pl sw + 9) e = (b : Int) ∧ f 229 e = (b : Int)) ∧
  f 233 0 = 0 ∧ ∀ i, i < c → f (pl sw + 3) i = f 233 (i + 1) ∧ 0 ≤ f 233 (i + 1) ∧ f 233 (i + 1) ≤ 50
/-- the same tables -/
def RB (f : mj_F) (c : Nat) : Prop := ∀ t, t < 4 → f (215 + 2 * t) 1 = ((c + 1 : Nat) : Int) ∧ TS (c + 1) 802 (f (215 + 2 * t) 2, gm (216 + 2 * t) 6 f) (f 234 (100 + t), tsq f 234 t)
/-- which edges are open at a node, as the class finds them -/
def opC (f : mj_F) (p c ne k : Nat) : Int := itr ne (fun e b => if f (p + 8) e = f 39 k then mj_or b (if (zst f p (c + 1) e (f (p + 9) e).toNat (0, gm (49 + 2 * k) 6 f)).1 = 0 then mj_shl 1 (e : Int) else 0) else b) 0
/-- the start's stay holds when all clocks are 0 -/
def stOK (f : mj_F) (st : Nat) : Prop := rlL f st 0 (fun _ => 0, fun _ => 0) (fun _ _ => some 1)
theorem stOK_c {f g : mj_F} (h : Pf f g) (st : Nat) : stOK g st = stOK f st := rlL_c h _ _ _ _
/-- a node -/
def RN (sw : Bool) (f : mj_F) (c np ne st k : Nat) : Prop :=
  (∃ a : Nat, a < np ∧ f 39 k = (a : Int) ∧ f 236 k = (a : Int)) ∧ f 40 k = f 237 k ∧ f 41 k = f 238 k ∧
  (k = 0 → f 237 0 = -2 ∧ f 238 0 = -2 ∧ f 42 0 = 0 ∧ f 236 0 = (st : Int) ∧ stOK f st) ∧
  (0 < k → ∃ j e d : Nat, j < k ∧ e < ne ∧ f 237 k = (j : Int) ∧ f 238 k = (e : Int) ∧ f 42 j = (d : Int) ∧ f 42 k = ((d + 1 : Nat) : Int) ∧ d < k ∧ f 228 e = f 236 j ∧ f 229 e = f 236 k) ∧
  f (48 + 2 * k) 1 = ((c + 1 : Nat) : Int) ∧ TS (c + 1) 802 (f (48 + 2 * k) 2, gm (49 + 2 * k) 6 f) (0, tsq f 239 k) ∧
  (f 43 k = -1 ∨ f 43 k = opC f (pl sw) c ne k)
/-- the same nodes -/
def RC (sw : Bool) (f : mj_F) (c np ne st N : Nat) : Prop :=
  N ≤ 60 ∧ f 37 9 = (N : Int) ∧ f 223 23 = (N : Int) ∧ (∀ k, k < N → RN sw f c np ne st k) ∧
  ∀ a : Nat, a < np → (f 44 a = -2 ∧ ∀ k, k < N → f 236 k ≠ (a : Int)) ∨ ∃ k : Nat, k < N ∧ f 44 a = (k : Int) ∧ f 236 k = (a : Int) ∧ ∀ j, j < k → f 236 j ≠ (a : Int)
/-- a row of edges, one behind another -/
def chn (f : mj_F) (ne st L : Nat) (ed : Nat → Nat) : Prop := ∀ i, i < L → ed i < ne ∧ f 228 (ed i) = (pla f ed st i : Int)
/-- the square of whole times -/
def whS (f : mj_F) (L : Nat) : Int × Mt := clr (L + 1) (L + 1) 0 (fun i j => whB (gm 171 21 f i j))
/-- the same trace; what is kept of its times -/
def RD (f : mj_F) (ne st L : Nat) (ed : Nat → Nat) : Prop :=
  L ≤ 20 ∧ f 168 1 = (L : Int) ∧ f 234 104 = (L : Int) ∧ (∀ i, i < L → f 169 i = (ed i : Int) ∧ f 234 (105 + i) = (ed i : Int)) ∧ chn f ne st L ed ∧
  (f 170 4 = 0 → (f 170 6 = 0 ∨ f 170 6 = 1) ∧ TC f ed st L (1 - f 170 6, gm 171 21 f) ∧ (f 170 5 = 0 → f 170 6 = 1 → f 170 7 = (whS f L).1 ∧ ∀ i j, i < 21 → j < 21 → gm 172 21 f i j = (whS f L).2 i j))
/-- one step of what can be undone: slot s, the row as it was, the row behind it -/
def HK (f : mj_F) (c ne st s : Nat) (r r' : Nat → Int) : Prop :=
  (∃ o : Nat, o < 4 ∧ f 179 s = (o : Int) ∧ f (183 + 2 * s) 1 = ((c + 1 : Nat) : Int) ∧ TS (c + 1) 802 (f (183 + 2 * s) 2, gm (184 + 2 * s) 6 f) (r (100 + o), fun i j => r (25 * o + 5 * i + j)) ∧ ∀ q, q < 125 → ¬ (25 * o ≤ q ∧ q < 25 * o + 25 ∨ q = 100 + o) → r q = r' q) ∨
  (f 179 s = -1 ∧ (∀ q, q < 104 → r q = r' q) ∧ ∃ (L : Nat) (ed : Nat → Nat), L ≤ 20 ∧ f 182 s = (L : Int) ∧ r 104 = (L : Int) ∧ (∀ i, i < L → f 181 (20 * s + i) = (ed i : Int) ∧ r (105 + i) = (ed i : Int)) ∧ chn f ne st L ed)
def hrow (f : mj_F) (d k : Nat) : Nat → Int := fun q => if k < d then f 235 (125 * k + q) else f 234 q
/-- the same history -/
def RE (f : mj_F) (c ne st nx d : Nat) : Prop :=
  nx < 16 ∧ d ≤ 16 ∧ f 178 4 = (nx : Int) ∧ f 178 5 = (d : Int) ∧ f 223 18 = (d : Int) ∧ ∀ k, k < d → HK f c ne st ((nx + 16 - d + k) % 16) (hrow f d k) (hrow f d (k + 1))
/-- the same tape, the same fault -/
def RF (f : mj_F) (tp : Nat) : Prop := tp ≤ 900 ∧ f 3 1 = (tp : Int) ∧ f 223 25 = (tp : Int) ∧ (∀ i, i < tp → f 4 i = f 240 i ∧ -128 ≤ f 4 i ∧ f 4 i < 128) ∧ f 3 8 = f 223 31 ∧ f 3 9 = f 223 32
def RX (sw : Bool) (f : mj_F) (c np ne st N L nx d tp : Nat) (ed : Nat → Nat) : Prop := RA sw f c np ne st ∧ RB f c ∧ RC sw f c np ne st N ∧ RD f ne st L ed ∧ RE f c ne st nx d ∧ RF f tp
def RR (sw : Bool) (f : mj_F) : Prop := ∃ (c np ne st N L nx d tp : Nat) (ed : Nat → Nat), RX sw f c np ne st N L nx d tp ed
/-! Of which slots it speaks. -/
def cA (sw : Bool) (a : Nat) : Prop := (pl sw ≤ a ∧ a ≤ pl sw + 12) ∨ a = 4 ∨ (39 ≤ a ∧ a ≤ 44) ∨ (48 ≤ a ∧ a ≤ 169) ∨ a = 171 ∨ a = 172 ∨ (178 ≤ a ∧ a ≤ 222) ∨ (224 ≤ a ∧ a ≤ 240)
def cM (q : Nat) : Prop := (1 ≤ q ∧ q ≤ 5) ∨ q = 18 ∨ q = 23 ∨ q = 25 ∨ q = 31 ∨ q = 32
def Cor (sw : Bool) (f g : mj_F) : Prop := (∀ a, cA sw a → g a = f a) ∧ (g 3 1 = f 3 1 ∧ g 3 8 = f 3 8 ∧ g 3 9 = f 3 9) ∧ g 37 9 = f 37 9 ∧ (∀ q, 4 ≤ q → q ≤ 7 → g 170 q = f 170 q) ∧ ∀ q, cM q → g 223 q = f 223 q
theorem Cor_r (sw : Bool) (f : mj_F) : Cor sw f f := ⟨fun _ _ => rfl, ⟨rfl, rfl, rfl⟩, rfl, fun _ _ _ => rfl, fun _ _ => rfl⟩
theorem Cor_t {sw : Bool} {f g h : mj_F} (a : Cor sw f g) (b : Cor sw g h) : Cor sw f h := ⟨fun x hx => (b.1 x hx).trans (a.1 x hx), ⟨b.2.1.1.trans a.2.1.1, b.2.1.2.1.trans a.2.1.2.1, b.2.1.2.2.trans a.2.1.2.2⟩, b.2.2.1.trans a.2.2.1, fun q h1 h2 => (b.2.2.2.1 q h1 h2).trans (a.2.2.2.1 q h1 h2), fun q hq => (b.2.2.2.2 q hq).trans (a.2.2.2.2 q hq)⟩
theorem pl_o (sw : Bool) : pl sw = 5 ∨ pl sw = 18 := pl_pn sw
theorem cA_pl {sw : Bool} {k : Nat} (h : k ≤ 12) : cA sw (pl sw + k) := Or.inl ⟨by omega, by omega⟩
theorem cA_m {sw : Bool} {a : Nat} (h : 224 ≤ a ∧ a ≤ 240) : cA sw a := by unfold cA; omega
theorem cA_z {sw : Bool} {a : Nat} (h : 178 ≤ a ∧ a ≤ 222) : cA sw a := by unfold cA; omega
theorem cA_n {sw : Bool} {a : Nat} (h : 48 ≤ a ∧ a ≤ 169) : cA sw a := by unfold cA; omega
theorem cA_g {sw : Bool} {a : Nat} (h : 39 ≤ a ∧ a ≤ 44) : cA sw a := by unfold cA; omega
theorem sL_c {f g : mj_F} {p n l : Nat} (h : ∀ k, k ≤ 12 → g (p + k) = f (p + k)) (h4 : g 224 = f 224) (h5 : g 225 = f 225) (h6 : g 226 = f 226) (h7 : g 227 = f 227) (s : sL f p n l) : sL g p n l := by
  unfold sL at s ⊢
  rw [h 4 (by omega), h 5 (by omega), h 6 (by omega), h 7 (by omega), h4, h5, h6, h7]
  exact s
theorem sS_c {f g : mj_F} {p n e : Nat} (h : ∀ k, k ≤ 12 → g (p + k) = f (p + k)) (h4 : g 230 = f 230) (h5 : g 231 = f 231) (h6 : g 232 = f 232) (s : sS f p n e) : sS g p n e := by
  unfold sS at s ⊢
  rw [h 10 (by omega), h 11 (by omega), h 12 (by omega), h4, h5, h6]
  exact s
theorem gm_c {f g : mj_F} {a S : Nat} (h : g a = f a) : gm a S g = gm a S f := by unfold gm; rw [h]
theorem tsq_c {f g : mj_F} {a t : Nat} (h : g a = f a) : tsq g a t = tsq f a t := by unfold tsq; rw [h]
theorem RA_c {sw : Bool} {f g : mj_F} {c np ne st : Nat} (h : ∀ k, k ≤ 12 → g (pl sw + k) = f (pl sw + k)) (h3 : ∀ q, 1 ≤ q → q ≤ 5 → g 223 q = f 223 q) (hm : ∀ a, 224 ≤ a → a ≤ 233 → g a = f a) (r : RA sw f c np ne st) : RA sw g c np ne st := by
  obtain ⟨r1, r2, r3, r4, r5, r6⟩ := r
  have h0 : g (pl sw) = f (pl sw) := h 0 (by omega)
  refine ⟨⟨r1.1, r1.2.1, r1.2.2.1, r1.2.2.2.1, r1.2.2.2.2.1, by rw [hm 230 (by omega) (by omega), hm 231 (by omega) (by omega)]; exact r1.2.2.2.2.2⟩, ?_, fun l hl => sL_c h (hm 224 (by omega) (by omega)) (hm 225 (by omega) (by omega)) (hm 226 (by omega) (by omega)) (hm 227 (by omega) (by omega)) (r3 l hl), fun e he => ?_, ?_, fun i hi => ?_⟩
  · rw [h0, h3 1 (by omega) (by omega), h3 2 (by omega) (by omega), h3 3 (by omega) (by omega), h3 4 (by omega) (by omega), h3 5 (by omega) (by omega)]
    exact r2
  · obtain ⟨a1, a2, a3⟩ := r4 e he
    refine ⟨sL_c h (hm 224 (by omega) (by omega)) (hm 225 (by omega) (by omega)) (hm 226 (by omega) (by omega)) (hm 227 (by omega) (by omega)) a1, sS_c h (hm 230 (by omega) (by omega)) (hm 231 (by omega) (by omega)) (hm 232 (by omega) (by omega)) a2, ?_⟩
    rw [h 8 (by omega), h 9 (by omega), hm 228 (by omega) (by omega), hm 229 (by omega) (by omega)]
    exact a3
  · rw [hm 233 (by omega) (by omega)]; exact r5
  · rw [hm 233 (by omega) (by omega), h 3 (by omega)]; exact r6 i hi
theorem RB_c {f g : mj_F} {c : Nat} (h : ∀ a, 215 ≤ a → a ≤ 222 → g a = f a) (hm : g 234 = f 234) (r : RB f c) : RB g c := by
  intro t ht
  rw [h (215 + 2 * t) (by omega) (by omega), gm_c (h (216 + 2 * t) (by omega) (by omega)), tsq_c hm, hm]
  exact r t ht
theorem zkr_c {f g : mj_F} {p n l m : Nat} {q : Int × Mt} (h : ∀ k, k ≤ 12 → g (p + k) = f (p + k)) : zkr g p n l m q = zkr f p n l m q := by
  unfold zkr
  rw [h 5 (by omega), h 6 (by omega), h 7 (by omega)]
theorem zst_c {f g : mj_F} {p n e l : Nat} {q : Int × Mt} (h : ∀ k, k ≤ 12 → g (p + k) = f (p + k)) : zst g p n e l q = zst f p n e l q := by
  have e1 : ∀ l q, zkl g p n l q = zkl f p n l q := fun l q => by unfold zkl; rw [h 4 (by omega), zkr_c h]
  have e2 : ∀ C, zae g p n e C = zae f p n e C := fun C => by unfold zae zap; rw [h 10 (by omega), h 11 (by omega), h 12 (by omega)]
  unfold zst
  rw [e1, e1, e1, e2]
theorem opC_c {f g : mj_F} {p c ne k : Nat} (h : ∀ k, k ≤ 12 → g (p + k) = f (p + k)) (h9 : g 39 = f 39) (hz : g (49 + 2 * k) = f (49 + 2 * k)) : opC g p c ne k = opC f p c ne k := by
  unfold opC
  have e1 : ∀ e l q, zst g p (c + 1) e l q = zst f p (c + 1) e l q := fun e l q => zst_c h
  simp only [h9, h 8 (by omega), h 9 (by omega), gm_c hz, e1]
theorem RC_c {sw : Bool} {f g : mj_F} {c np ne st N : Nat} (h : ∀ k, k ≤ 12 → g (pl sw + k) = f (pl sw + k)) (h1 : g 37 9 = f 37 9) (h2 : g 223 23 = f 223 23) (hg : ∀ a, 39 ≤ a → a ≤ 44 → g a = f a) (hz : ∀ a, 48 ≤ a → a ≤ 167 → g a = f a) (hm : ∀ a, 224 ≤ a → a ≤ 232 ∨ 236 ≤ a → a ≤ 239 → g a = f a) (r : RC sw f c np ne st N) : RC sw g c np ne st N := by
  obtain ⟨r1, r2, r3, r4, r5⟩ := r
  have hpf : Pf f g := ⟨hm 224 (by omega) (by omega) (by omega), hm 225 (by omega) (by omega) (by omega), hm 226 (by omega) (by omega) (by omega), hm 227 (by omega) (by omega) (by omega), hm 229 (by omega) (by omega) (by omega), hm 230 (by omega) (by omega) (by omega), hm 231 (by omega) (by omega) (by omega), hm 232 (by omega) (by omega) (by omega)⟩
  refine ⟨r1, h1.trans r2, h2.trans r3, fun k hk => ?_, fun a ha => ?_⟩
  · have t := r4 k hk
    unfold RN at t ⊢
    rw [stOK_c hpf, hg 39 (by omega) (by omega), hg 40 (by omega) (by omega), hg 41 (by omega) (by omega), hg 42 (by omega) (by omega), hg 43 (by omega) (by omega), hm 228 (by omega) (by omega) (by omega), hm 229 (by omega) (by omega) (by omega), hm 236 (by omega) (by omega) (by omega), hm 237 (by omega) (by omega) (by omega), hm 238 (by omega) (by omega) (by omega), tsq_c (hm 239 (by omega) (by omega) (by omega)), hz (48 + 2 * k) (by omega) (by omega), gm_c (hz (49 + 2 * k) (by omega) (by omega)), opC_c h (hg 39 (by omega) (by omega)) (hz (49 + 2 * k) (by omega) (by omega))]
    exact t
  · rw [hg 44 (by omega) (by omega), hm 236 (by omega) (by omega) (by omega)]
    exact r5 a ha
theorem chn_c {f g : mj_F} {ne st L : Nat} {ed : Nat → Nat} (h8 : g 228 = f 228) (h9 : g 229 = f 229) (r : chn f ne st L ed) : chn g ne st L ed := fun i hi => by
  rw [h8, pla_c h9]
  exact r i hi
theorem RD_c {f g : mj_F} {ne st L : Nat} {ed : Nat → Nat} (h1 : g 168 = f 168) (h2 : g 169 = f 169) (h3 : g 171 = f 171) (h4 : g 172 = f 172) (h5 : ∀ q, 4 ≤ q → q ≤ 7 → g 170 q = f 170 q) (h6 : ∀ q, 104 ≤ q → g 234 q = f 234 q) (hm : ∀ a, 224 ≤ a → a ≤ 232 → g a = f a) (r : RD f ne st L ed) : RD g ne st L ed := by
  have hp : Pf f g := ⟨hm 224 (by omega) (by omega), hm 225 (by omega) (by omega), hm 226 (by omega) (by omega), hm 227 (by omega) (by omega), hm 229 (by omega) (by omega), hm 230 (by omega) (by omega), hm 231 (by omega) (by omega), hm 232 (by omega) (by omega)⟩
  obtain ⟨r1, r2, r3, r4, r5, r6⟩ := r
  have ew : whS g L = whS f L := by unfold whS; rw [gm_c h3]
  refine ⟨r1, ?_, ?_, ?_, chn_c (hm 228 (by omega) (by omega)) (hm 229 (by omega) (by omega)) r5, ?_⟩
  · rw [h1]; exact r2
  · rw [h6 104 (by omega)]; exact r3
  · intro i hi
    rw [h2, h6 (105 + i) (by omega)]; exact r4 i hi
  · rw [h5 4 (by omega) (by omega), h5 5 (by omega) (by omega), h5 6 (by omega) (by omega), h5 7 (by omega) (by omega), gm_c h3, gm_c h4, ew]
    intro h0
    obtain ⟨a1, a2, a3⟩ := r6 h0
    exact ⟨a1, TC_c hp a2, a3⟩
theorem HK_c {f g : mj_F} {c ne st s : Nat} {r r' : Nat → Int} (hs : s < 16) (h : ∀ a, 178 ≤ a → a ≤ 214 → g a = f a) (h8 : g 228 = f 228) (h9 : g 229 = f 229) (t : HK f c ne st s r r') : HK g c ne st s r r' := by
  unfold HK at t ⊢
  rw [h 179 (by omega) (by omega), h 181 (by omega) (by omega), h 182 (by omega) (by omega), h (183 + 2 * s) (by omega) (by omega), gm_c (h (184 + 2 * s) (by omega) (by omega))]
  rcases t with t | ⟨a1, a2, L, ed, a3, a4, a5, a6, a7⟩
  · exact Or.inl t
  · exact Or.inr ⟨a1, a2, L, ed, a3, a4, a5, a6, chn_c h8 h9 a7⟩
theorem RE_c {f g : mj_F} {c ne st nx d : Nat} (h : ∀ a, 178 ≤ a → a ≤ 214 → g a = f a) (h1 : g 223 18 = f 223 18) (h4 : g 234 = f 234) (h5 : g 235 = f 235) (h8 : g 228 = f 228) (h9 : g 229 = f 229) (r : RE f c ne st nx d) : RE g c ne st nx d := by
  obtain ⟨r1, r2, r3, r4, r5, r6⟩ := r
  have eh : ∀ k, hrow g d k = hrow f d k := fun k => by unfold hrow; rw [h4, h5]
  refine ⟨r1, r2, ?_, ?_, h1.trans r5, fun k hk => ?_⟩
  · rw [h 178 (by omega) (by omega)]; exact r3
  · rw [h 178 (by omega) (by omega)]; exact r4
  · rw [eh, eh]
    exact HK_c (Nat.mod_lt _ (by decide)) h h8 h9 (r6 k hk)
theorem RX_c {sw : Bool} {f g : mj_F} {c np ne st N L nx d tp : Nat} {ed : Nat → Nat} (h : Cor sw f g) (r : RX sw f c np ne st N L nx d tp ed) : RX sw g c np ne st N L nx d tp ed := by
  obtain ⟨h1, h2, h3, h4, h5⟩ := h
  obtain ⟨ra, rb, rc, rd, re, rf⟩ := r
  have hp : ∀ k, k ≤ 12 → g (pl sw + k) = f (pl sw + k) := fun k hk => h1 _ (cA_pl hk)
  have hm : ∀ a, 224 ≤ a → a ≤ 240 → g a = f a := fun a h1' h2' => h1 a (cA_m ⟨h1', h2'⟩)
  have hz : ∀ a, 178 ≤ a → a ≤ 222 → g a = f a := fun a h1' h2' => h1 a (cA_z ⟨h1', h2'⟩)
  have hn : ∀ a, 48 ≤ a → a ≤ 169 → g a = f a := fun a h1' h2' => h1 a (cA_n ⟨h1', h2'⟩)
  have hg : ∀ a, 39 ≤ a → a ≤ 44 → g a = f a := fun a h1' h2' => h1 a (cA_g ⟨h1', h2'⟩)
  refine ⟨RA_c hp (fun q h1' h2' => h5 q (Or.inl ⟨h1', h2'⟩)) (fun a h1' h2' => hm a h1' (by omega)) ra, RB_c (fun a h1' h2' => hz a (by omega) h2') (hm 234 (by omega) (by omega)) rb, RC_c hp h3 (h5 23 (by unfold cM; omega)) hg (fun a h1' h2' => hn a h1' (by omega)) (fun a h1' _ h3' => hm a (by omega) (by omega)) rc, RD_c (hn 168 (by omega) (by omega)) (hn 169 (by omega) (by omega)) (h1 171 (by unfold cA; omega)) (h1 172 (by unfold cA; omega)) h4 (fun q _ => by rw [hm 234 (by omega) (by omega)]) (fun a h1' h2' => hm a h1' (by omega)) rd, RE_c (fun a h1' h2' => hz a h1' (by omega)) (h5 18 (by unfold cM; omega)) (hm 234 (by omega) (by omega)) (hm 235 (by omega) (by omega)) (hm 228 (by omega) (by omega)) (hm 229 (by omega) (by omega)) re, ?_⟩
  obtain ⟨f1, f2, f3, f4, f5, f6⟩ := rf
  refine ⟨f1, h2.1.trans f2, (h5 25 (by unfold cM; omega)).trans f3, ?_, ?_, ?_⟩
  · rw [h1 4 (by unfold cA; omega), hm 240 (by omega) (by omega)]
    exact f4
  · rw [h2.2.1, h5 31 (by unfold cM; omega)]; exact f5
  · rw [h2.2.2, h5 32 (by unfold cM; omega)]; exact f6
theorem RR_c {sw : Bool} {f g : mj_F} (h : Cor sw f g) (r : RR sw f) : RR sw g := by
  obtain ⟨c, np, ne, st, N, L, nx, d, tp, ed, r⟩ := r
  exact ⟨c, np, ne, st, N, L, nx, d, tp, ed, RX_c h r⟩
