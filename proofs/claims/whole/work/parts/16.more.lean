/-! Two rows more. -/
def mj_bt (o : Option mj_O) (k : mj_F → Option mj_O) : Option mj_O := match o with
  | some (_, f, _) => k f
  | none => none
theorem mj_bt_some (w : mj_W) (f : mj_F) (v : Option mj_V) (k : mj_F → Option mj_O) : mj_bt (some (w, f, v)) k = k f := rfl
section MS
variable {y : Nat} {w w' : mj_W} {f f' : mj_F} {pc p' : Nat} {ls ls' st st' : List mj_V} {X : Option mj_O}
theorem ms_nocall {idx : Nat} (d : mj_dec y pc = some (.invokestatic idx) ∧ mj_cl2 (mj_cn y) idx = none) : mj_run y w f pc ls st = none := by
  obtain ⟨d, hq⟩ := d
  refine mj_run_none ?_
  simp only [mj_nx, d, if_pos (Or.inr rfl : mj_imp y = true ∨ mj_keepw y (.invokestatic idx) = true), mj_end, mj_callee, mj_stp, mj_copy, hq]
theorem ms_virt_t {idx cy a t n : Nat} {as rest : List mj_V} {K : mj_F → Option mj_O} (d : mj_dec y pc = some (.invokevirtual idx) ∧ mj_vk y idx = some (cy, n + 1) ∧ mj_imp cy = false) (hn : as.length = n) (hst : st = as.reverse ++ .inr (.inl a) :: rest) (hl : mj_low rest = true) (hc : as.all (fun v => mj_cat v == 1) = true) (hw : w.1 a = (mj_cn cy, 0)) (hp : pc + 3 = p') (hq : ∀ r, mj_call cy w f (.inr (.inl a) :: as) = some r → r.2.2 = some (.inr (.inl t))) (h : ∀ f, mj_run y w f p' ls (.inr (.inl t) :: rest) = K f) : mj_run y w f pc ls st = mj_bt (mj_call cy w f (.inr (.inl a) :: as)) K := by
  obtain ⟨d, hv, hi⟩ := d
  subst hst
  subst hn
  subst hp
  refine (ms_then d rfl rfl hi (ms_callee_v hv hl hc hw)).trans ?_
  cases hx : mj_call cy w f (.inr (.inl a) :: as) with
  | none => rfl
  | some r =>
    obtain ⟨w2, f2, v⟩ := r
    have h1 : w2 = w := (mj_call_pure hx hi).1
    have h2 : v = some (.inr (.inl t)) := hq _ hx
    subst h1 h2
    exact h f2
end MS
