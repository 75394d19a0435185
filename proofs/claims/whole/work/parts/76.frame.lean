/-! What leaves the relation alone. -/
theorem Cor_zs {sw : Bool} {f : mj_F} {z : Nat} {n v : Int} {C : Mt} (hz : z = 32 ∨ z = 34 ∨ z = 46 ∨ z = 176) : Cor sw f (zs z f n v C) := by
  have hp := pl_o sw
  refine ⟨fun a ha => funext fun q => ?_, ⟨?_, ?_, ?_⟩, ?_, fun q _ _ => ?_, fun q _ => ?_⟩
  · unfold cA at ha
    exact zs_o (by omega) (by omega)
  · exact zs_o (by omega) (by omega)
  · exact zs_o (by omega) (by omega)
  · exact zs_o (by omega) (by omega)
  · exact zs_o (by omega) (by omega)
  · exact zs_o (by omega) (by omega)
  · exact zs_o (by omega) (by omega)
theorem Cor_rq {sw : Bool} {f : mj_F} {n v : Int} {A : Mt} : Cor sw f (rq f n v A) := by
  have hp := pl_o sw
  refine ⟨fun a ha => funext fun q => ?_, ⟨?_, ?_, ?_⟩, ?_, fun q _ _ => ?_, fun q hq => ?_⟩
  · unfold cA at ha
    exact rq_o (by omega) (by omega)
  · exact rq_o (by omega) (by omega)
  · exact rq_o (by omega) (by omega)
  · exact rq_o (by omega) (by omega)
  · exact rq_o (by omega) (by omega)
  · exact rq_o (by omega) (by omega)
  · unfold cM at hq
    exact rq_f (by omega) (by omega)
/-- a slot of no account is written -/
theorem Cor_u {sw : Bool} {f : mj_F} {a k : Nat} {v : Int} (h : 32 ≤ a ∧ a ≤ 36 ∨ 45 ≤ a ∧ a ≤ 47 ∨ 173 ≤ a ∧ a ≤ 177 ∨ 241 ≤ a ∨ a = 223 ∧ ¬ cM k) : Cor sw f (mj_u f a k v) := by
  have hp := pl_o sw
  refine ⟨fun b ha => funext fun q => ?_, ⟨?_, ?_, ?_⟩, ?_, fun q _ _ => ?_, fun q hq => ?_⟩
  · unfold cA at ha
    exact u_o (Or.inl (by omega))
  · exact u_o (Or.inl (by omega))
  · exact u_o (Or.inl (by omega))
  · exact u_o (Or.inl (by omega))
  · exact u_o (Or.inl (by omega))
  · exact u_o (Or.inl (by omega))
  · by_cases hb : a = 223
    · subst hb
      refine u_o (Or.inr (fun e => ?_))
      subst e
      rcases h with h | h | h | h | h
      · omega
      · omega
      · omega
      · omega
      · exact h.2 hq
    · exact u_o (Or.inl (by omega))
theorem Cor_0 {sw : Bool} {f : mj_F} : Cor sw f (mj_u f 223 0 0) := Cor_u (Or.inr (Or.inr (Or.inr (Or.inr ⟨rfl, by unfold cM; omega⟩))))
/-- whole rows of no account are other ones -/
theorem Cor_a {sw : Bool} {f g : mj_F} (h : ∀ a q, ¬ (32 ≤ a ∧ a ≤ 36 ∨ 45 ≤ a ∧ a ≤ 47 ∨ 173 ≤ a ∧ a ≤ 177 ∨ 241 ≤ a) → g a q = f a q) : Cor sw f g := by
  have hp := pl_o sw
  refine ⟨fun b ha => funext fun q => ?_, ⟨?_, ?_, ?_⟩, ?_, fun q _ _ => ?_, fun q hq => ?_⟩
  · unfold cA at ha
    exact h b q (by omega)
  · exact h 3 1 (by omega)
  · exact h 3 8 (by omega)
  · exact h 3 9 (by omega)
  · exact h 37 9 (by omega)
  · exact h 170 q (by omega)
  · exact h 223 q (by omega)
/-- both answer alike, and the relation stands behind it -/
def Ok (sw : Bool) (w : mj_W) (f : mj_F) (y1 y2 : Nat) (as : List mj_V) : Prop := ∃ (F1 F3 : mj_F) (v : Int), mj_call y1 w f (.inr (.inl 2) :: as) = some (w, F1, some (.inl v)) ∧ mj_call y2 w F1 (.inr (.inl 223) :: as) = some (w, F3, some (.inl v)) ∧ RR sw F3
theorem Ok_i {sw : Bool} {w : mj_W} {f : mj_F} {y1 y2 : Nat} {as : List mj_V} (r : RR sw f) {F1 F3 : mj_F} {v : Int} (h1 : mj_call y1 w f (.inr (.inl 2) :: as) = some (w, F1, some (.inl v))) (c1 : Cor sw f F1) (h2 : mj_call y2 w F1 (.inr (.inl 223) :: as) = some (w, F3, some (.inl v))) (c2 : Cor sw F1 F3) : Ok sw w f y1 y2 as := ⟨F1, F3, v, h1, h2, RR_c c2 (RR_c c1 r)⟩
theorem TS_e {n : Nat} {M : Int} {q r q' r' : Int × Mt} (h : TS n M q r) (h1 : q'.1 = q.1) (h2 : r'.1 = r.1) (e1 : ∀ i j, i < n → j < n → q'.2 i j = q.2 i j) (e2 : ∀ i j, i < n → j < n → r'.2 i j = r.2 i j) : TS n M q' r' := by
  have e3 : Eqn n (cT q.2) (cT q'.2) := fun i j hi hj => by show cv (q.2 i j) = cv (q'.2 i j); rw [e1 i j hi hj]
  have e4 : Eqn n (rT r.2) (rT r'.2) := fun i j hi hj => by show rv (r.2 i j) = rv (r'.2 i j); rw [e2 i j hi hj]
  rcases h with ⟨a, b⟩ | ⟨a, b, c, d, e, g, k, l⟩
  · exact Or.inl ⟨h1.trans a, h2.trans b⟩
  · refine Or.inr ⟨h1.trans a, h2.trans b, Cl_e e3 c, fun j hj => ?_, Bb_e e3 e, Eqn_t (Eqn_s e3) (Eqn_t g e4), fun i j hi hj => ?_, fun i j hi hj => ?_⟩
    · rw [← e3 0 j (by omega) hj]; exact d j hj
    · rw [e1 i j hi hj]; exact k i j hi hj
    · rw [e2 i j hi hj]; exact l i j hi hj
theorem HK_e {f : mj_F} {c ne st s : Nat} (hc : c ≤ 4) {r r' u u' : Nat → Int} (h : ∀ q, q < 125 → u q = r q) (h' : ∀ q, q < 125 → u' q = r' q) (t : HK f c ne st s r r') : HK f c ne st s u u' := by
  rcases t with ⟨o, a1, a2, a3, a4, a5⟩ | ⟨a1, a2, L, ed, a3, a4, a5, a6, a7⟩
  · refine Or.inl ⟨o, a1, a2, a3, TS_e a4 rfl (h _ (by omega)) (fun _ _ _ _ => rfl) (fun i j hi hj => h _ (by omega)), fun q hq hn => ?_⟩
    rw [h q hq, h' q hq]
    exact a5 q hq hn
  · refine Or.inr ⟨a1, fun q hq => ?_, L, ed, a3, a4, ?_, fun i hi => ⟨(a6 i hi).1, ?_⟩, a7⟩
    · rw [h q (by omega), h' q (by omega)]; exact a2 q hq
    · rw [h _ (by omega)]; exact a5
    · rw [h _ (by omega)]; exact (a6 i hi).2
/-- a slot that isn't touched -/
theorem HK_s {f g : mj_F} {c ne st s : Nat} {r r' : Nat → Int} (h1 : g 179 s = f 179 s) (h2 : ∀ i, i < 20 → g 181 (20 * s + i) = f 181 (20 * s + i)) (h3 : g 182 s = f 182 s) (h4 : g (183 + 2 * s) = f (183 + 2 * s)) (h5 : g (184 + 2 * s) = f (184 + 2 * s)) (h8 : g 228 = f 228) (h9 : g 229 = f 229) (t : HK f c ne st s r r') : HK g c ne st s r r' := by
  unfold HK at t ⊢
  rw [h1, h3, h4, gm_c h5]
  rcases t with t | ⟨a1, a2, L, ed, a3, a4, a5, a6, a7⟩
  · exact Or.inl t
  · refine Or.inr ⟨a1, a2, L, ed, a3, a4, a5, fun i hi => ?_, chn_c h8 h9 a7⟩
    rw [h2 i (by omega)]
    exact a6 i hi
/-- one step more that can be undone -/
theorem RE_push {f g : mj_F} {c ne st nx d d' off : Nat} (hc : c ≤ 4) (r : RE f c ne st nx d) (hd : d' = if d = 16 then 16 else d + 1) (ho : off + d' = d + 1) (h4 : g 178 4 = (((nx + 1) % 16 : Nat) : Int)) (h5 : g 178 5 = (d' : Int)) (h18 : g 223 18 = (d' : Int)) (hrw : ∀ k q, k < d' → q < 125 → hrow g d' k q = hrow f d (k + off) q) (hs1 : ∀ s, s < 16 → s ≠ nx → g 179 s = f 179 s ∧ g 182 s = f 182 s ∧ g (183 + 2 * s) = f (183 + 2 * s) ∧ g (184 + 2 * s) = f (184 + 2 * s)) (hs2 : ∀ s i, s < 16 → s ≠ nx → i < 20 → g 181 (20 * s + i) = f 181 (20 * s + i)) (h8 : g 228 = f 228) (h9 : g 229 = f 229) (hn : HK g c ne st nx (f 234) (g 234)) : RE g c ne st ((nx + 1) % 16) d' := by
  obtain ⟨r1, r2, r3, r4, r5, r6⟩ := r
  have hd16 : d' ≤ 16 := by rw [hd]; split <;> omega
  have hd1 : 1 ≤ d' := by rw [hd]; split <;> omega
  refine ⟨Nat.mod_lt _ (by decide), hd16, h4, h5, h18, fun k hk => ?_⟩
  have elast : hrow g d' d' = g 234 := by funext q; unfold hrow; rw [if_neg (by omega)]
  by_cases hl : k + 1 = d'
  · have es : ((nx + 1) % 16 + 16 - d' + k) % 16 = nx := by omega
    rw [es, hl, elast]
    refine HK_e hc (fun q hq => ?_) (fun q _ => rfl) hn
    rw [hrw k q hk hq, show k + off = d by omega]
    unfold hrow
    rw [if_neg (by omega)]
  · have es : ((nx + 1) % 16 + 16 - d' + k) % 16 = (nx + 16 - d + (k + off)) % 16 := by omega
    have hne : (nx + 16 - d + (k + off)) % 16 ≠ nx := by omega
    have hlt : (nx + 16 - d + (k + off)) % 16 < 16 := Nat.mod_lt _ (by decide)
    rw [es]
    have t := r6 (k + off) (by omega)
    obtain ⟨b1, b2, b3, b4⟩ := hs1 _ hlt hne
    refine HK_e hc (fun q hq => hrw k q hk hq) (fun q hq => ?_) (HK_s b1 (fun i hi => hs2 _ i hlt hne hi) b2 b3 b4 h8 h9 t)
    rw [hrw (k + 1) q (by omega) hq, show k + 1 + off = k + off + 1 by omega]
theorem kpF_o {f : mj_F} {d a q : Nat} (h : a ≠ 235) (h' : a ≠ 223 ∨ q ≠ 18) : kpF f d a q = f a q := by
  unfold kpF
  split
  · rw [u_o h']
    unfold cpn
    rw [if_neg (fun z => h z.1), u_o h']
    unfold shf
    rw [if_neg (fun z => h z.1)]
  · rw [u_o h']
    unfold cpn
    rw [if_neg (fun z => h z.1)]
theorem kpF_18 {f : mj_F} {d : Nat} : kpF f d 223 18 = (((if d = 16 then 16 else d + 1 : Nat)) : Int) := by
  unfold kpF
  split
  · rw [u_self]; rfl
  · rw [u_self]
theorem kpF_row {f g : mj_F} {d d' off : Nat} (hd16 : d ≤ 16) (hd : d' = if d = 16 then 16 else d + 1) (ho : off + d' = d + 1) (h : g 235 = kpF f d 235) {k q : Nat} (hk : k < d') (hq : q < 125) : hrow g d' k q = hrow f d (k + off) q := by
  unfold hrow
  rw [if_pos hk, h]
  unfold kpF
  by_cases h6 : d = 16
  · rw [if_pos h6] at hd ⊢
    subst hd h6
    have : off = 1 := by omega
    subst this
    rw [u_o (Or.inl (by decide))]
    unfold cpn
    by_cases hk15 : k = 15
    · subst hk15
      rw [if_pos ⟨rfl, by omega, by omega⟩, if_neg (by omega), u_o (Or.inl (by decide))]
      unfold shf
      rw [if_neg (fun z => absurd z.1 (by decide)), show 125 * 15 + q - 125 * 15 = q by omega]
    · rw [if_neg (by omega), if_pos (by omega), u_o (Or.inl (by decide))]
      unfold shf
      rw [if_pos ⟨rfl, by omega⟩, show 125 * (k + 1) + q = 125 * k + q + 125 by omega]
  · rw [if_neg h6] at hd ⊢
    subst hd
    have : off = 0 := by omega
    subst this
    rw [u_o (Or.inl (by decide))]
    unfold cpn
    by_cases hkd : k = d
    · subst hkd
      rw [if_pos ⟨rfl, by omega, by omega⟩, if_neg (by omega), show 125 * k + q - 125 * k = q by omega]
    · rw [if_neg (by omega), if_pos (by omega)]
      rfl
