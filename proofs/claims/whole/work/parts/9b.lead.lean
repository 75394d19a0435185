/-! lead. -/
def cpA (K : mj_F) (m : Nat) : mj_F := fun a q => if a = 169 ∧ q < m then K 45 q else K a q
def ldF (G : mj_F) (m k : Nat) : mj_F := fun a q => if a = 234 ∧ 105 ≤ q ∧ q < 105 + k then (if q - 105 < m then G 254 (q - 105) else 0) else G a q
theorem cpA_o {K : mj_F} {m a q : Nat} (h : a ≠ 169) : cpA K m a q = K a q := if_neg (fun z => h z.1)
theorem ldF_o {G : mj_F} {m k a q : Nat} (h : a ≠ 234 ∨ q < 105) : ldF G m k a q = G a q := if_neg (by omega)
section LD
variable {sw : Bool} {w : mj_W}
theorem X_lead59 (hw : wk sw w) (K : mj_F) {m : Nat} (hm : m ≤ 20) (h : K 168 1 = (m : Int)) (x1 x2 : Int) : mj_run yX_lead w K 59 [.inr (.inl 2), .inl x1, .inl x2, .inl 0] [] = some (w, cpA K m, some (.inl (m : Int))) := by
  have h0 : cpA K 0 = K := by funext a q; exact if_neg (by omega)
  have hl := loop_st (fun k => mj_run yX_lead w (cpA K k) 59 [.inr (.inl 2), .inl x1, .inl x2, .inl (k : Int)] []) (Nat.zero_le m) (fun k _ hk => by
    have e : mj_u (cpA K k) 169 k (cpA K k 45 k) = cpA K (k + 1) := by
      funext a q
      rw [cpA_o (by decide)]
      unfold mj_u cpA
      by_cases h1 : a = 169 ∧ q = k
      · rw [if_pos h1, if_pos ⟨h1.1, by omega⟩, h1.2]
      · rw [if_neg h1]
        by_cases h2 : a = 169 ∧ q < k
        · rw [if_pos h2, if_pos ⟨h2.1, by omega⟩]
        · rw [if_neg h2, if_neg (by omega)]
    rw [l_X_lead_59 hw, cpA_o (by decide), h, if_neg (by omega), mj_gd_pos ⟨by omega, by omega⟩, mj_gd_pos ⟨by omega, by omega⟩, Int.toNat_natCast, e, wS (by omega)])
  rw [h0] at hl
  refine hl.trans ?_
  rw [l_X_lead_59 hw, cpA_o (by decide), h, if_pos (by omega)]
theorem M_lead76 (hw : wk sw w) (G : mj_F) {m : Nat} (hm : m ≤ 20) (h : G 234 104 = (m : Int)) (x1 : Int) : mj_run yM_lead w G 76 [.inr (.inl 223), .inl x1, .inl 0] [] = some (w, ldF G m 20, some (.inl (m : Int))) := by
  have h0 : ldF G m 0 = G := by funext a q; exact if_neg (by omega)
  have tr : ∀ k, ldF G m k 234 (104 : Int).toNat = (m : Int) := fun k => (ldF_o (Or.inr (by decide))).trans h
  have hl := loop_st (fun k => mj_run yM_lead w (ldF G m k) 76 [.inr (.inl 223), .inl x1, .inl (k : Int)] []) (Nat.zero_le 20) (fun k _ hk => by
    have e : ∀ v, v = (if k < m then G 254 k else 0) → mj_u (ldF G m k) 234 (105 + k) v = ldF G m (k + 1) := by
      intro v hv
      funext a q
      unfold mj_u
      by_cases h1 : a = 234 ∧ q = 105 + k
      · rw [if_pos h1, hv]
        unfold ldF
        rw [h1.2, if_pos (show a = 234 ∧ 105 ≤ 105 + k ∧ 105 + k < 105 + (k + 1) from ⟨h1.1, by omega, by omega⟩), show 105 + k - 105 = k by omega]
      · rw [if_neg h1]
        unfold ldF
        by_cases h2 : a = 234 ∧ 105 ≤ q ∧ q < 105 + k
        · rw [if_pos h2, if_pos (show a = 234 ∧ 105 ≤ q ∧ q < 105 + (k + 1) from ⟨h2.1, h2.2.1, by omega⟩)]
        · rw [if_neg h2, if_neg (by omega)]
    rw [l_M_lead_76 hw, if_neg (by omega), c_M_traced hw, mj_bi_some, tr, w105 (by omega), Int.toNat_natCast, wS (by omega)]
    by_cases hkm : k < m
    · rw [if_neg (by omega), mj_gd_pos ⟨by omega, by omega⟩, mj_gd_pos ⟨by omega, by omega⟩, Int.toNat_natCast, e _ (by rw [if_pos hkm, ldF_o (Or.inl (by decide))])]
    · rw [if_pos (by omega), mj_gd_pos ⟨by omega, by omega⟩, e _ (by rw [if_neg hkm])])
  rw [h0] at hl
  refine hl.trans ?_
  rw [show ((20 : Nat) : Int) = 20 from rfl, l_M_lead_76 hw, if_pos (by decide), c_M_traced hw, mj_bi_some, tr]
/-- behind both sides' new trace -/
theorem lead_RX {f Fw G : mj_F} {c np ne st N L nx d tp m : Nat} {ed ed' : Nat → Nat} (r : RX sw f c np ne st N L nx d tp ed) (cw : Cor sw f Fw) (hm : m ≤ 20) (hw45 : ∀ i, i < m → Fw 45 i = (ed' i : Int)) (hch : chn f ne st m ed') (hG : ∀ a q, a ≠ 254 → a ≠ 223 → G a q = cpA (mj_u (mj_u (hpF Fw nx d) 170 4 1) 168 1 (m : Int)) m a q) (hG2 : ∀ q, cM q → G 223 q = Fw 223 q) (h254 : ∀ i, i < m → G 254 i = (ed' i : Int)) : RX sw (ldF (mj_u (kpF G d) 234 104 (m : Int)) m 20) c np ne st N m ((nx + 1) % 16) (d16 d) tp ed' := by
  have rw' := RX_c cw r
  have hp0 := pl_o sw
  obtain ⟨H, hH⟩ : ∃ H, H = ldF (mj_u (kpF G d) 234 104 (m : Int)) m 20 := ⟨_, rfl⟩
  rw [← hH]
  have hHo : ∀ a q, a ≠ 234 → a ≠ 235 → a ≠ 223 → H a q = G a q := fun a q b1 b2 b3 => by rw [hH, ldF_o (Or.inl b1), u_o (Or.inl b1), kpF_o b2 (Or.inl b3)]
  have gO : ∀ a q, a ≠ 168 → a ≠ 169 → a ≠ 170 → ¬ (178 ≤ a ∧ a ≤ 182) → a ≠ 223 → a ≠ 254 → G a q = Fw a q := fun a q b1 b2 b3 b4 b5 b6 => by
    rw [hG a q b6 b5, cpA_o b2, u_o (Or.inl b1), u_o (Or.inl b3), hpF_o (by omega)]
  have hHf : ∀ a q, a ≠ 168 → a ≠ 169 → a ≠ 170 → ¬ (178 ≤ a ∧ a ≤ 182) → a ≠ 234 → a ≠ 235 → a ≠ 223 → a ≠ 254 → H a q = Fw a q := fun a q b1 b2 b3 b4 b5 b6 b7 b8 => (hHo a q b5 b6 b7).trans (gO a q b1 b2 b3 b4 b7 b8)
  have hK8 : ∀ a q, 178 ≤ a → a ≤ 182 → H a q = hpF Fw nx d a q := fun a q b1 b2 => by
    rw [hHo a q (by omega) (by omega) (by omega), hG a q (by omega) (by omega), cpA_o (by omega), u_o (Or.inl (by omega)), u_o (Or.inl (by omega))]
  have k234 : ∀ q, kpF G d 234 q = Fw 234 q := fun q => by rw [kpF_o (by decide) (Or.inl (by decide)), gO 234 q (by decide) (by decide) (by decide) (by decide) (by decide) (by decide)]
  have hchW : chn Fw ne st m ed' := chn_c (cw.1 228 (cA_m (by omega))) (cw.1 229 (cA_m (by omega))) hch
  refine path_RX rw' (fun a ha b1 b2 b3 b4 b5 b6 b7 b8 => ?_) (fun q hq hn => ?_) ⟨hHf 3 1 (by decide) (by decide) (by decide) (by decide) (by decide) (by decide) (by decide) (by decide), hHf 3 8 (by decide) (by decide) (by decide) (by decide) (by decide) (by decide) (by decide) (by decide), hHf 3 9 (by decide) (by decide) (by decide) (by decide) (by decide) (by decide) (by decide) (by decide)⟩ (hHf 37 9 (by decide) (by decide) (by decide) (by decide) (by decide) (by decide) (by decide) (by decide)) ?_ ⟨by rw [hK8 178 4 (by decide) (by decide)]; exact hpF_178.1, by rw [hK8 178 5 (by decide) (by decide)]; exact hpF_178.2⟩ ?_ ?_ (fun s => by rw [hK8 179 s (by decide) (by decide)]; exact hpF_179) (fun s => by rw [hK8 182 s (by decide) (by decide)]; exact hpF_182) (fun s i hi => by rw [hK8 181 _ (by decide) (by decide)]; exact hpF_181 hi) (fun q hq => by rw [hH, ldF_o (Or.inr (by omega)), u_o (Or.inr (by omega)), k234]) hm ?_ ?_ (fun i hi => ⟨?_, ?_⟩) hchW
  · by_cases hb : 178 ≤ a ∧ a ≤ 182
    · have h180 : a = 180 := by omega
      subst h180
      exact funext fun q => by rw [hK8 180 q (by decide) (by decide), hpF_o (by omega)]
    · exact funext fun q => hHf a q b1 b2 (by unfold cA at ha; omega) hb b7 b8 (by unfold cA at ha; omega) (by unfold cA at ha; omega)
  · rw [hH, ldF_o (Or.inl (by decide)), u_o (Or.inl (by decide)), kpF_o (by decide) (Or.inr hn)]
    exact hG2 q hq
  · rw [hHo 170 4 (by decide) (by decide) (by decide), hG 170 4 (by decide) (by decide), cpA_o (by decide), u_o (Or.inl (by decide)), u_self]
  · rw [hH, ldF_o (Or.inl (by decide)), u_o (Or.inl (by decide)), kpF_18]; rfl
  · funext q
    rw [hH, ldF_o (Or.inl (by decide)), u_o (Or.inl (by decide))]
    exact kpF_235 (fun q => gO 234 q (by decide) (by decide) (by decide) (by decide) (by decide) (by decide)) (fun q => gO 235 q (by decide) (by decide) (by decide) (by decide) (by decide) (by decide))
  · rw [hHo 168 1 (by decide) (by decide) (by decide), hG 168 1 (by decide) (by decide), cpA_o (by decide), u_self]
  · rw [hH, ldF_o (Or.inr (by decide)), u_self]
  · rw [hHo 169 i (by decide) (by decide) (by decide), hG 169 i (by decide) (by decide)]
    unfold cpA
    rw [if_pos ⟨rfl, hi⟩, u_o (Or.inl (by decide)), u_o (Or.inl (by decide)), hpF_o (by omega)]
    exact hw45 i hi
  · rw [hH]
    unfold ldF
    rw [if_pos ⟨rfl, by omega, by omega⟩, show 105 + i - 105 = i by omega, if_pos hi, u_o (Or.inl (by decide)), kpF_o (by decide) (Or.inl (by decide))]
    exact h254 i hi
theorem ok_lead (hw : wk sw w) {f : mj_F} (r : RR sw f) (x1 : Int) : Ok sw w f yX_lead yM_lead [.inl x1] := by
  obtain ⟨c, np, ne, st, N, L, nx, d, tp, ed, r⟩ := r
  obtain ⟨⟨hc4, hn8, he16, _, _⟩, ⟨xl, xc, mc, xp, mp, xe, me, xs, ms⟩, hL, hE, h0, hg⟩ := r.1
  have xn := r.2.2.1.2.1
  have mn := r.2.2.1.2.2.1
  have hN := r.2.2.1.1
  have mc' : mj_u f 223 0 0 223 2 = (c : Int) := mc
  have mp' : mj_u f 223 0 0 223 3 = (np : Int) := mp
  have me' : mj_u f 223 0 0 223 4 = (ne : Int) := me
  have mn' : mj_u f 223 0 0 223 23 = (N : Int) := mn
  obtain ⟨hL20, l1, l2, l3, l4, _⟩ := r.2.2.2.1
  obtain ⟨hnx, hd16, e4, e5, e18, _⟩ := r.2.2.2.2.1
  have hp0 := pl_o sw
  by_cases h1 : x1 = -1
  · subst h1
    obtain ⟨K, hK⟩ : ∃ K, K = cpA (mj_u (mj_u (hpF f nx d) 170 4 1) 168 1 ((0 : Nat) : Int)) 0 := ⟨_, rfl⟩
    have eX : mj_call yX_lead w f [.inr (.inl 2), .inl (-1)] = some (w, K, some (.inl ((0 : Nat) : Int))) := by
      rw [c_X_lead hw, if_pos rfl, if_neg (fun z => z rfl), if_pos (by decide), X_changePath hw f e4 e5 hnx hd16, mj_bu_some, if_neg (by decide), hK]
      exact X_lead59 hw (mj_u (mj_u (hpF f nx d) 170 4 1) 168 1 0) (m := 0) (by decide) u_self (-1) 0
    have kO : ∀ a q, a ≠ 168 → a ≠ 169 → a ≠ 170 → ¬ (178 ≤ a ∧ a ≤ 182) → K a q = f a q := fun a q b1 b2 b3 b4 => by
      rw [hK, cpA_o b2, u_o (Or.inl b1), u_o (Or.inl b3), hpF_o (by omega)]
    obtain ⟨G, hG⟩ : ∃ G, G = mj_u K 223 0 0 := ⟨_, rfl⟩
    have g18 : G 223 18 = (d : Int) := by rw [hG, mu0 (by decide), kO 223 18 (by decide) (by decide) (by decide) (by decide)]; exact e18
    have eM : mj_call yM_lead w K [.inr (.inl 223), .inl (-1)] = some (w, ldF (mj_u (kpF G d) 234 104 ((0 : Nat) : Int)) 0 20, some (.inl ((0 : Nat) : Int))) := by
      rw [c_M_lead hw, if_pos rfl, if_pos rfl, ← hG, M_keepsF hw G g18 hd16, mj_bu_some, if_neg (fun z => z rfl), show (104 : Int).toNat = 104 from rfl, show mj_u (kpF G d) 234 104 0 = mj_u (kpF G d) 234 104 ((0 : Nat) : Int) from rfl, M_lead76 hw _ (m := 0) (by decide) u_self]
    refine ⟨K, _, _, eX, eM, c, np, ne, st, N, 0, (nx + 1) % 16, d16 d, tp, ed, ?_⟩
    refine lead_RX (Fw := f) r (Cor_r _ _) (by decide) (fun i hi => absurd hi (by omega)) (fun i hi => absurd hi (by omega)) (fun a q b1 b2 => ?_) (fun q hq => ?_) (fun i hi => absurd hi (by omega))
    · rw [hG, mu0a b2, hK]
    · rw [hG, mu0 (by unfold cM at hq; omega), kO 223 q (by decide) (by decide) (by decide) (by decide)]
  · by_cases hV : 0 ≤ x1 ∧ x1 < (np : Int)
    · obtain ⟨p, rfl⟩ : ∃ p : Nat, x1 = (p : Int) := ⟨x1.toNat, by omega⟩
      have hp : p < np := by omega
      rcases G_findWay hw r.2.2.1 hn8 hp with ⟨a, e1⟩ | ⟨k, n, hk, hn, a, hpk, dk, e1⟩
      · have e2 := (M_laysRoad hw (RX_c Cor_0 r).2.2.1 hp).1 (by rw [mu0a (by decide)]; exact a)
        refine Ok_i ⟨c, np, ne, st, N, L, nx, d, tp, ed, r⟩ (F1 := f) (F3 := mj_u f 223 0 0) (v := -2) ?_ (Cor_r _ _) ?_ Cor_0
        · rw [c_X_lead hw, if_neg h1, X_isPlace hw f xp, mj_bi_some]
          simp only [i01]
          rw [if_pos (by omega), if_pos h1, e1, mj_bi_some, if_neg (by decide)]
        · rw [c_M_lead hw, if_neg h1, M_isPlace hw _ mp' (by omega), mj_bi_some]
          simp only [i01]
          rw [if_pos (by omega), if_neg h1, e2, mj_bi_some, if_neg (by decide)]
      · have c1 : Cor sw f (wyF f 45 n k f) := Cor_wy
        obtain ⟨F1, hF1⟩ : ∃ F1, F1 = wyF f 45 n k f := ⟨_, rfl⟩
        rw [← hF1] at c1 e1
        have r1 := RX_c c1 r
        obtain ⟨_, _, e4', e5', e18', _⟩ := r1.2.2.2.2.1
        obtain ⟨ed', hed'⟩ : ∃ ed' : Nat → Nat, ed' = fun i => (rdE f n k i).toNat := ⟨_, rfl⟩
        obtain ⟨wc, wend⟩ := way_chn r.2.2.1 n k hk dk
        rw [← hed'] at wc wend
        have hrow : ∀ i, i < n → rdE f n k i = (ed' i : Int) := fun i hi => by
          obtain ⟨e, b1, _⟩ := wc i hi
          rw [hed']
          show rdE f n k i = ((rdE f n k i).toNat : Int)
          rw [b1, Int.toNat_natCast]
        have hch0 : chn f ne st n ed' := fun i hi => by
          obtain ⟨e, b1, b2, b3⟩ := wc i hi
          have : ed' i = e := by have := hrow i hi; omega
          rw [this]
          exact ⟨b2, b3⟩
        obtain ⟨m, hm⟩ : ∃ m, m = if 20 < n then 20 else n := ⟨_, rfl⟩
        have hm20 : m ≤ 20 := by rw [hm]; split <;> omega
        have hmn : m ≤ n := by rw [hm]; split <;> omega
        have em : (if 20 < (n : Int) then (20 : Int) else (n : Int)) = (m : Int) := by rw [hm]; split <;> split <;> omega
        obtain ⟨K, hK⟩ : ∃ K, K = cpA (mj_u (mj_u (hpF F1 nx d) 170 4 1) 168 1 (m : Int)) m := ⟨_, rfl⟩
        have eX : mj_call yX_lead w f [.inr (.inl 2), .inl (p : Int)] = some (w, K, some (.inl (m : Int))) := by
          rw [c_X_lead hw, if_neg h1, X_isPlace hw f xp, mj_bi_some]
          simp only [i01]
          rw [if_pos (by omega), if_pos h1, e1, mj_bi_some, if_pos (by omega), X_changePath hw F1 e4' e5' hnx hd16, mj_bu_some, em, X_lead59 hw _ hm20 u_self, hK]
        have kO : ∀ a q, a ≠ 168 → a ≠ 169 → a ≠ 170 → ¬ (178 ≤ a ∧ a ≤ 182) → K a q = F1 a q := fun a q b1 b2 b3 b4 => by
          rw [hK, cpA_o b2, u_o (Or.inl b1), u_o (Or.inl b3), hpF_o (by omega)]
        obtain ⟨G0, hG0⟩ : ∃ G0, G0 = mj_u K 223 0 0 := ⟨_, rfl⟩
        have g0O : ∀ a q, a ≠ 168 → a ≠ 169 → a ≠ 170 → ¬ (178 ≤ a ∧ a ≤ 182) → a ≠ 223 → G0 a q = F1 a q := fun a q b1 b2 b3 b4 b5 => by rw [hG0, mu0a b5, kO a q b1 b2 b3 b4]
        have g0M : ∀ q, q ≠ 0 → G0 223 q = F1 223 q := fun q hq => by rw [hG0, mu0 hq, kO 223 q (by decide) (by decide) (by decide) (by decide)]
        -- the reference's nodes in that memory
        have rcG : RC sw G0 c np ne st N := RC_c (fun j hj => funext fun q => g0O _ q (by omega) (by omega) (by omega) (by omega) (by omega)) (g0O 37 9 (by decide) (by decide) (by decide) (by decide) (by decide)) (g0M 23 (by decide)) (fun x b1 b2 => funext fun q => g0O x q (by omega) (by omega) (by omega) (by omega) (by omega)) (fun x b1 b2 => funext fun q => g0O x q (by omega) (by omega) (by omega) (by omega) (by omega)) (fun x b1 b2 b3 => funext fun q => g0O x q (by omega) (by omega) (by omega) (by omega) (by omega)) r1.2.2.1
        have e2 := (M_laysRoad hw rcG hp).2 k n hk (by rw [g0O 44 p (by decide) (by decide) (by decide) (by decide) (by decide), c1.1 44 (cA_g (by omega))]; exact a) (by rw [g0O 42 k (by decide) (by decide) (by decide) (by decide) (by decide), c1.1 42 (cA_g (by omega))]; exact dk)
        obtain ⟨G, hG⟩ : ∃ G, G = wyF G0 254 n k (mj_u G0 223 56 (n : Int)) := ⟨_, rfl⟩
        rw [← hG] at e2
        have gO : ∀ x q, x ≠ 254 → x ≠ 223 → G x q = K x q := fun x q b1 b2 => by rw [hG, wyF_o b1, u_o (Or.inl b2), hG0, mu0a b2]
        have gM : ∀ q, q ≠ 0 → q ≠ 56 → G 223 q = F1 223 q := fun q b1 b2 => by rw [hG, wyF_o (by decide), u_o (Or.inr b2), g0M q b1]
        have g56 : G 223 56 = (n : Int) := by rw [hG, wyF_o (by decide), u_self]
        have g254 : ∀ i, i < n → G 254 i = (ed' i : Int) := fun i hi => by
          have h7 : G0 237 = f 237 := (funext fun q => g0O 237 q (by decide) (by decide) (by decide) (by decide) (by decide)).trans (c1.1 237 (cA_m (by omega)))
          have h8 : G0 238 = f 238 := (funext fun q => g0O 238 q (by decide) (by decide) (by decide) (by decide) (by decide)).trans (c1.1 238 (cA_m (by omega)))
          rw [hG, wyF_at n k _ hi, rdE_c h7 h8]
          exact hrow i hi
        have g18 : G 223 18 = (d : Int) := (gM 18 (by decide) (by decide)).trans e18'
        have mpG : G0 223 3 = (np : Int) := (g0M 3 (by decide)).trans r1.1.2.1.2.2.2.2.1
        have k56 : kpF G d 223 56 = (n : Int) := by rw [kpF_o (by decide) (Or.inr (by decide))]; exact g56
        have eM : mj_call yM_lead w K [.inr (.inl 223), .inl (p : Int)] = some (w, ldF (mj_u (kpF G d) 234 104 (m : Int)) m 20, some (.inl (m : Int))) := by
          rw [c_M_lead hw, if_neg h1, ← hG0, M_isPlace hw G0 mpG (by omega), mj_bi_some]
          simp only [i01]
          rw [if_pos (by omega), if_neg h1, e2, mj_bi_some, if_pos (by decide), M_keepsF hw G g18 hd16, mj_bu_some, if_pos h1, k56, show (104 : Int).toNat = 104 from rfl]
          by_cases h20 : 20 ≤ (n : Int)
          · have hm2 : (20 : Int) = (m : Int) := by omega
            rw [if_pos h20, hm2, M_lead76 hw _ hm20 u_self]
          · have hm2 : (n : Int) = (m : Int) := by omega
            rw [if_neg h20, hm2, M_lead76 hw _ hm20 u_self]
        refine ⟨K, _, _, eX, eM, c, np, ne, st, N, m, (nx + 1) % 16, d16 d, tp, ed', ?_⟩
        exact lead_RX (Fw := F1) r c1 hm20 (fun i hi => by rw [hF1, wyF_at n k _ (by omega)]; exact hrow i (by omega)) (fun i hi => hch0 i (by omega)) (fun x q b1 b2 => by rw [gO x q b1 b2, hK]) (fun q hq => gM q (by unfold cM at hq; omega) (by unfold cM at hq; omega)) (fun i hi => g254 i (by omega))
    · refine Ok_i ⟨c, np, ne, st, N, L, nx, d, tp, ed, r⟩ (F1 := f) (F3 := mj_u f 223 0 0) (v := -1) ?_ (Cor_r _ _) ?_ Cor_0
      · rw [c_X_lead hw, if_neg h1, X_isPlace hw f xp, mj_bi_some]
        simp only [i01]
        rw [if_neg (by omega)]
      · rw [c_M_lead hw, if_neg h1, M_isPlace hw _ mp' (by omega), mj_bi_some]
        simp only [i01]
        rw [if_neg (by omega)]
end LD
