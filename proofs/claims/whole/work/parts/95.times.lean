/-! The times of the trace, on both sides, from the relation. -/
theorem sL_lOK {f : mj_F} {p n l : Nat} (hn : n ≤ 5) (s : sL f p n l) : lOK f p l := by
  obtain ⟨m, m6, m1, m2, m3, m4⟩ := s
  refine ⟨m, m6, m1, m2, m3, fun k hk => ?_⟩
  obtain ⟨a1, a2, a3, a4, a5, a6⟩ := m4 k hk
  have a2' : (f 225 (6 * l + k)).toNat + 1 < n := a2
  have a1' : 0 ≤ f 225 (6 * l + k) := a1
  exact ⟨a1', by omega, a3, a4, a5, a6⟩
theorem lOK_T {f : mj_F} {p l : Nat} (h : lOK f p l) : okT f p l ∧ mkT f l := by
  obtain ⟨m, m6, m1, m2, m3, m4⟩ := h
  exact ⟨⟨m, m6, m1, fun k hk => by rw [(m3 k hk).1]; exact ⟨(m4 k hk).1, (m4 k hk).2.1⟩⟩, ⟨m, m6, m2, fun k hk => ⟨(m4 k hk).1, (m4 k hk).2.1⟩⟩⟩
/-- all that the times of a row of edges need -/
def tmK (f : mj_F) (p st L : Nat) (ed : Nat → Nat) : Prop := f p 4 = (st : Int) ∧ st < 8 ∧ lOK f p st ∧ (∀ i, i < L → eS f p (ed i) ∧ eOK f p (ed i) ∧ mOK f (ed i)) ∧ (∀ i, i < L → f (p + 8) (ed i) = (pla f ed st i : Int)) ∧ (∀ i, i ≤ L → pla f ed st i < 8 ∧ lOK f p (pla f ed st i))
theorem RA_eS {sw : Bool} {f : mj_F} {c np ne st e : Nat} (ra : RA sw f c np ne st) (he : e < ne) : eS f (pl sw) e ∧ eOK f (pl sw) e ∧ mOK f e := by
  obtain ⟨⟨hc4, hn8, he16, _, _⟩, _, hL, hE, _, _⟩ := ra
  obtain ⟨se, ⟨m, m4, m1, m2, m3, m5⟩, a, b, ha, hb, q1, q2, q3, q4⟩ := hE e he
  have lb := sL_lOK (by omega) (hL b hb)
  have la := sL_lOK (by omega) (hL a ha)
  have le := sL_lOK (by omega) se
  refine ⟨⟨by omega, ⟨b, by omega, q3, q4, lb⟩, le, m, m4, m1, m2, fun k hk => ?_⟩, ⟨by omega, ⟨a, by omega, q1, (lOK_T la).1⟩, ⟨b, by omega, q3, (lOK_T lb).1⟩, (lOK_T le).1, m, m4, m1, fun k hk => ?_⟩, ⟨by omega, ⟨b, by omega, q4, (lOK_T lb).2⟩, (lOK_T le).2, m, m4, m2, fun k hk => ?_⟩⟩
  · have := m5 k hk
    exact ⟨(m3 k hk).1, (m3 k hk).2, this.1, by omega, this.2.2.1, this.2.2.2⟩
  · have := m5 k hk
    rw [(m3 k hk).1]
    exact ⟨this.1, by omega⟩
  · have := m5 k hk
    exact ⟨this.1, by omega⟩
theorem RA_tm {sw : Bool} {f : mj_F} {c np ne st L : Nat} {ed : Nat → Nat} (ra : RA sw f c np ne st) (hnp : 0 < np) (hc : chn f ne st L ed) : tmK f (pl sw) st L ed := by
  have hst : st < np := by have := ra.1.2.2.2.2.1; omega
  have hc4 := ra.1.1
  have hn8 := ra.1.2.1
  have hpl : ∀ i, i ≤ L → pla f ed st i < np := by
    intro i
    cases i with
    | zero => exact fun _ => hst
    | succ i =>
      intro hi
      obtain ⟨_, _, a, b, ha, hb, q1, q2, q3, q4⟩ := ra.2.2.2.1 (ed i) (hc i (by omega)).1
      show (f 229 (ed i)).toNat < np
      rw [q4, Int.toNat_natCast]
      exact hb
  refine ⟨ra.2.1.2.2.2.2.2.2.2.1, by omega, sL_lOK (by omega) (ra.2.2.1 st hst), fun i hi => RA_eS ra (hc i hi).1, fun i hi => ?_, fun i hi => ⟨by have := hpl i hi; omega, sL_lOK (by omega) (ra.2.2.1 _ (hpl i hi))⟩⟩
  obtain ⟨_, _, a, b, ha, hb, q1, q2, q3, q4⟩ := ra.2.2.2.1 (ed i) (hc i hi).1
  rw [q1, ← q2]
  exact (hc i hi).2
theorem CS_e {n : Nat} {A : Bt} {q q' : Int × Mt} (h : CS n A q) (h1 : q'.1 = q.1) (e : ∀ i j, i < n → j < n → q'.2 i j = q.2 i j) : CS n A q' := by
  rcases h with ⟨a, b⟩ | ⟨a, b, c⟩
  · exact Or.inl ⟨h1.trans a, b⟩
  · refine Or.inr ⟨h1.trans a, Gr_e (fun i j hi hj => ?_) b, fun i j hi hj => ?_⟩
    · show cv (q.2 i j) = cv (q'.2 i j)
      rw [e i j hi hj]
    · rw [e i j hi hj]; exact c i j hi hj
theorem TC_e {f : mj_F} {ed : Nat → Nat} {st L : Nat} {q q' : Int × Mt} (h : TC f ed st L q) (h1 : q'.1 = q.1) (e : ∀ i j, i < L + 1 → j < L + 1 → q'.2 i j = q.2 i j) : TC f ed st L q' := by
  obtain ⟨K, k1, k2, k3, k4⟩ := h
  exact ⟨K, k1, k2, k3, CS_e k4 h1 e⟩
theorem clr_01 (n : Nat) : ∀ d k C, (clr n d k C).1 = 0 ∨ (clr n d k C).1 = 1 := by
  intro d
  induction d with
  | zero => exact fun _ _ => Or.inr rfl
  | succ d ih =>
    intro k C
    unfold clr
    split
    · exact ih _ _
    · exact Or.inl rfl
theorem PR_le {f : mj_F} {ed : Nat → Nat} {st n : Nat} {D : Bt} (hd : Cl n D) : ∀ L, L < n → PR f ed st D L → ∀ i j, i ≤ j → j ≤ L → ble (D i j) (some 1) := by
  intro L
  induction L with
  | zero =>
    intro hn _ i j hij hj
    rw [show i = 0 by omega, show j = 0 by omega, hd.1 0 (by omega)]
    exact ble_r _
  | succ L ih =>
    intro hn h i j hij hj
    have i1 := ih (by omega) h.1
    by_cases hjl : j = L + 1
    · by_cases hil : i = L + 1
      · rw [hjl, hil, hd.1 (L + 1) (by omega)]; exact ble_r _
      · rw [hjl]
        have a := ble_t (hd.2 i (L + 1) L (by omega) (by omega) (by omega)) (bad_m (i1 i L (by omega) (Nat.le_refl L)) h.2.1)
        rw [bad_1] at a
        exact a
    · exact i1 i j hij (by omega)
theorem PR_dn {f : mj_F} {ed : Nat → Nat} {st : Nat} {D : Bt} : ∀ L i, i ≤ L → PR f ed st D L → PR f ed st D i := by
  intro L
  induction L with
  | zero => intro i hi h; rw [show i = 0 by omega]; exact h
  | succ L ih =>
    intro i hi h
    by_cases hil : i = L + 1
    · rw [hil]; exact h
    · exact ih i (by omega) h.1
/-- from a moment to a later one the square has a bound, on both sides the same -/
theorem TC_fin {f : mj_F} {ed : Nat → Nat} {st L : Nat} {C : Mt} {r : Int × Mt} (h1 : TC f ed st L (0, C)) (h2 : TR f ed st L r) {i j : Nat} (hij : i ≤ j) (hj : j ≤ L) : C i j = r.2 i j ∧ C i j ≤ 1 ∧ -(bm 102 (L + 1)) < C i j := by
  have T := TS_00 (TC_TR h1 h2) rfl
  have a := TS_cell T (show i < L + 1 by omega) (show j < L + 1 by omega)
  obtain ⟨K, k1, k2, k3, k4⟩ := h1
  rcases k4 with ⟨b, _⟩ | ⟨_, b, _⟩
  · exact absurd (show (0 : Int) = 1 from b) (by decide)
  · have z : ble (cv (C i j)) (some 1) := PR_le b.1 L (by omega) ((k1 _ b.1).1 b.2.1) i j hij hj
    rcases a with ⟨a1, _⟩ | ⟨a1, a2, _, _, a5⟩
    · rw [cv_n (by omega)] at z
      exact absurd z ble_ns
    · rw [cv_s a5] at z
      exact ⟨a1, z, a2⟩
section TM
variable {sw : Bool} {w : mj_W}
theorem X_timesOfPath (hw : wk sw w) {f : mj_F} {c np ne st N L nx d tp : Nat} {ed : Nat → Nat} (r : RX sw f c np ne st N L nx d tp ed) (hnp : 0 < np) : ∃ F1 : mj_F, mj_call yX_timesOfPath w f [.inr (.inl 2)] = some (w, F1, some (.inr (.inl 170))) ∧ RX sw F1 c np ne st N L nx d tp ed ∧ F1 170 4 = 0 ∧ ∀ a q, ¬ (170 ≤ a ∧ a ≤ 174) → F1 a q = f a q := by
  by_cases h0 : f 170 4 = 0
  · refine ⟨f, ?_, r, h0, fun _ _ _ => rfl⟩
    rw [c_X_timesOfPath hw, if_pos h0]
  · obtain ⟨ra, rb, rc, rd, re, rf⟩ := id r
    obtain ⟨hL, l1, l2, l3, l4, _⟩ := rd
    have hp := pl_o sw
    obtain ⟨t1, t2, t3, t4, t5, t6⟩ := RA_tm ra hnp l4
    have B := T_build hw (pl_pn sw) f hL l1 t1 t2 (lOK_T t3).1 (fun i hi => ⟨ed i, (l3 i hi).1, (t4 i hi).2.1⟩)
    have hI := (tb_inv (pl_pn sw) t1 t3 (fun i hi => (l3 i hi).1) (fun i hi => (t4 i hi).1) t5 (fun i hi => (t6 i hi).2) L (Nat.le_refl L)).1
    have hT := build_TC (by omega) (pl_pn sw) t1 t3 (fun i hi => (l3 i hi).1) (fun i hi => (t4 i hi).1) t5 (fun i hi => (t6 i hi).2)
    have eS' : itr L (fun i S => tbI f (pl sw) i S) (tb0 f, tkl (tb0 f) (pl sw) (f (pl sw) 4).toNat 0 (dgI (L + 1))) = tbS f (pl sw) L := rfl
    rw [eS'] at hI
    obtain ⟨q, hq⟩ : ∃ q : Int × Mt, q = clr (L + 1) (L + 1) 0 (tbS f (pl sw) L).2 := ⟨_, rfl⟩
    have q01 : q.1 = 0 ∨ q.1 = 1 := by rw [hq]; exact clr_01 _ _ _ _
    have hz : zcl (L + 1) 0 (tbS f (pl sw) L).2 = ((if q.1 = 0 then 1 else 0), q.2) := by
      unfold zcl
      rw [if_neg (fun z => z rfl), ← hq]
    rw [hz] at hT
    rw [← hq] at B
    obtain ⟨F1, hF⟩ : ∃ F1, F1 = mj_u (mj_u (mj_u (sm 171 21 (tbS f (pl sw) L).1 q.2) 170 6 q.1) 170 4 0) 170 5 1 := ⟨_, rfl⟩
    rw [← hF] at B
    have ho : ∀ a q, ¬ (170 ≤ a ∧ a ≤ 174) → F1 a q = f a q := fun a x h => by
      rw [hF, u_o (Or.inl (by omega)), u_o (Or.inl (by omega)), u_o (Or.inl (by omega)), sm_o (by omega), hI a x (by omega) (by omega)]
    have hA : ∀ a, ¬ (170 ≤ a ∧ a ≤ 174) → F1 a = f a := fun a h => funext fun x => ho a x h
    have f4 : F1 170 4 = 0 := by rw [hF, u_o (Or.inr (by decide)), u_self]
    have f5 : F1 170 5 = 1 := by rw [hF, u_self]
    have f6 : F1 170 6 = q.1 := by rw [hF, u_o (Or.inr (by decide)), u_o (Or.inr (by decide)), u_self]
    have g1 : ∀ i j, i < 21 → j < 21 → gm 171 21 F1 i j = q.2 i j := fun i j hi hj => by
      show F1 171 (21 * i + j) = q.2 i j
      rw [hF, u_o (Or.inl (by decide)), u_o (Or.inl (by decide)), u_o (Or.inl (by decide)), sm_get hi hj]
    have hpf : Pf f F1 := ⟨hA 224 (by decide), hA 225 (by decide), hA 226 (by decide), hA 227 (by decide), hA 229 (by decide), hA 230 (by decide), hA 231 (by decide), hA 232 (by decide)⟩
    refine ⟨F1, ?_, ⟨RA_c (fun k hk => hA _ (by omega)) (fun x _ _ => ho 223 x (by decide)) (fun a h1 h2 => hA a (by omega)) ra, RB_c (fun a h1 h2 => hA a (by omega)) (hA 234 (by decide)) rb, RC_c (fun k hk => hA _ (by omega)) (ho 37 9 (by decide)) (ho 223 23 (by decide)) (fun a h1 h2 => hA a (by omega)) (fun a h1 h2 => hA a (by omega)) (fun a h1 h2 h3 => hA a (by omega)) rc, ?_, RE_c (fun a h1 h2 => hA a (by omega)) (ho 223 18 (by decide)) (hA 234 (by decide)) (hA 235 (by decide)) (hA 228 (by decide)) (hA 229 (by decide)) re, ?_⟩, f4, ho⟩
    · rw [c_X_timesOfPath hw, if_neg h0, B, mj_bu_some]
    · refine ⟨hL, by rw [ho 168 1 (by decide)]; exact l1, by rw [ho 234 104 (by decide)]; exact l2, fun i hi => by rw [ho 169 i (by decide), ho 234 (105 + i) (by decide)]; exact l3 i hi, chn_c (hA 228 (by decide)) (hA 229 (by decide)) l4, fun _ => ⟨by rw [f6]; exact q01, TC_c hpf (TC_e hT ?_ (fun i j hi hj => g1 i j (by omega) (by omega))), fun h5 => ?_⟩⟩
      · show 1 - F1 170 6 = if q.1 = 0 then 1 else 0
        rw [f6]
        rcases q01 with h | h
        · rw [h, if_pos rfl]; rfl
        · rw [h, if_neg (by decide)]; rfl
      · rw [f5] at h5; exact absurd h5 (by decide)
    · obtain ⟨a1, a2, a3, a4, a5, a6⟩ := rf
      refine ⟨a1, (ho 3 1 (by decide)).trans a2, (ho 223 25 (by decide)).trans a3, ?_, ?_, ?_⟩
      · rw [hA 4 (by decide), hA 240 (by decide)]; exact a4
      · rw [ho 3 8 (by decide), ho 223 31 (by decide)]; exact a5
      · rw [ho 3 9 (by decide), ho 223 32 (by decide)]; exact a6
/-- times that clocks were set, kept for each moment -/
theorem lt_sv {f : mj_F} {p r1 x2 many st : Nat} (os : lOK f p st) {ed : Nat → Nat} (hed : ∀ i, i < many → f r1 (x2 + i) = (ed i : Int)) (he : ∀ i, i < many → eS f p (ed i)) (hlk : ∀ i, i ≤ many → lOK f p (pla f ed st i)) : ∀ i, i ≤ many → ∀ j x, j < i → x < 4 → (ltS f r1 x2 many st i).1 257 (4 * j + x) = (sb f ed j).1 x ∧ (ltS f r1 x2 many st i).1 258 (4 * j + x) = (sb f ed j).2 x := by
  intro i
  induction i with
  | zero => intro _ j x hj; omega
  | succ i ih =>
    intro hi j x hj hx
    obtain ⟨_, z2, _⟩ := lt_inv os hed he hlk i (by omega)
    have es : (ltS f r1 x2 many st (i + 1)).1 = ltF (ltS f r1 x2 many st i).1 (f r1 (x2 + i)).toNat i := rfl
    rw [es]
    unfold ltF
    rw [srF_o (by decide) (by decide), srF_o (by decide) (by decide)]
    unfold svF
    by_cases hji : j = i
    · subst hji
      rw [if_pos ⟨rfl, by omega, by omega⟩, if_neg (fun q => absurd q.1 (by decide)), if_pos ⟨rfl, by omega, by omega⟩, show 4 * j + x - 4 * j = x by omega]
      exact z2 x hx
    · rw [if_neg (by omega), if_neg (fun q => absurd q.1 (by decide)), if_neg (fun q => absurd q.1 (by decide)), if_neg (by omega)]
      exact ih (by omega) j x (by omega) hx
theorem M_lays (hw : wk sw w) {g : mj_F} {c np ne st L nr r1 x2 : Nat} {ed : Nat → Nat} (ra : RA sw g c np ne st) (hnp : 0 < np) (hc : chn g ne st L ed) (hL : L ≤ 59) (hr1 : w.1 r1 = (100, nr)) (hr : r1 ≠ 223 ∧ r1 ≠ 252) (hr5 : r1 ≠ 255 ∧ r1 ≠ 256 ∧ r1 ≠ 257 ∧ r1 ≠ 258) (hx : x2 + L ≤ nr) (hnr : nr ≤ 125) (hed : ∀ i, i < L → g r1 (x2 + i) = (ed i : Int)) : ∃ (G1 : mj_F) (r' : Int × Mt), mj_call yM_laysTimes w g [.inr (.inl 223), .inr (.inl r1), .inl (x2 : Int), .inl (L : Int)] = some (w, rq G1 ((L + 1 : Nat) : Int) r'.1 r'.2, none) ∧ TR g ed st L r' ∧ (∀ a q, ¬ (255 ≤ a ∧ a ≤ 258) → G1 a q = g a q) ∧ ∀ i x, i < L → x < 4 → G1 257 (4 * i + x) = (sb g ed i).1 x ∧ G1 258 (4 * i + x) = (sb g ed i).2 x := by
  obtain ⟨t1, t2, t3, t4, t5, t6⟩ := RA_tm ra hnp hc
  have ms := ra.2.1.2.2.2.2.2.2.2.2
  obtain ⟨e1, e2⟩ := R_laysTimes hw g hr1 hr hr5 hx hnr hL ms t2 (lOK_T t3).2 (fun i hi => ⟨ed i, hed i hi, (t4 i hi).2.2⟩)
  refine ⟨_, _, e1, lays_TR hL t3 hed (fun i hi => (t4 i hi).1) (fun i hi => (t6 i hi).2), fun a q h => e2.2.1 a q (by omega) (by omega) (by omega) (by omega), fun i x hi hx => lt_sv t3 hed (fun i hi => (t4 i hi).1) (fun i hi => (t6 i hi).2) L (Nat.le_refl L) i x hi hx⟩
theorem M_laysTrace (hw : wk sw w) {g : mj_F} {c np ne st N L nx d tp : Nat} {ed : Nat → Nat} (r : RX sw g c np ne st N L nx d tp ed) (hnp : 0 < np) : ∃ (G1 : mj_F) (r' : Int × Mt), mj_call yM_laysTrace w g [.inr (.inl 223)] = some (w, rq G1 ((L + 1 : Nat) : Int) r'.1 r'.2, none) ∧ TR g ed st L r' ∧ Cor sw g (rq G1 ((L + 1 : Nat) : Int) r'.1 r'.2) ∧ ∀ i x, i < L → x < 4 → G1 257 (4 * i + x) = (sb g ed i).1 x ∧ G1 258 (4 * i + x) = (sb g ed i).2 x := by
  obtain ⟨hL, l1, l2, l3, l4, _⟩ := r.2.2.2.1
  obtain ⟨G1, r', e, t, o, s⟩ := M_lays hw r.1 hnp l4 (by omega) (k_234 hw) (by decide) (by decide) (show 105 + L ≤ 125 by omega) (by decide) (fun i hi => (l3 i hi).2)
  refine ⟨G1, r', ?_, t, Cor_t (Cor_a (fun a q h => o a q (by omega))) Cor_rq, s⟩
  rw [c_M_laysTrace hw, c_M_traced hw, mj_bi_some, show (104 : Int).toNat = 104 from rfl, l2]
  exact (congrArg (fun z => mj_bu z _) e).trans (mj_bu_some ..)
end TM
