/-! Our own small machine: it runs the real bytes (the library's decode) over a flat memory of whole numbers. -/
/-- a value: an int, a reference (0 null, 1 the script, 2.. what the law makes), a long; unset (0), thrown (its kind) -/
abbrev mj_V : Type := Int ⊕ (Nat ⊕ (Int ⊕ Nat))
/-- kinds and lengths of the cells; the references in them (0: null); the next address; the slots used -/
abbrev mj_W : Type := (Nat → Nat × Nat) × (Nat → Nat → Nat) × Nat × Nat
abbrev mj_F : Type := Nat → Nat → Int
def mj_row (y : Nat) : mj_Row := mj_tab.getD y (⟨"", "", ""⟩, ⟨#[]⟩, 0, none, 0, 0, 0)
def mj_code (y : Nat) : ByteArray := (mj_row y).2.1
def mj_nL (y : Nat) : Nat := (mj_row y).2.2.1
def mj_rt (y : Nat) : Option FieldType := (mj_row y).2.2.2.1
def mj_ar (y : Nat) : Nat := (mj_row y).2.2.2.2.1
def mj_lev (y : Nat) : Nat := (mj_row y).2.2.2.2.2.1
def mj_cn (y : Nat) : Nat := (mj_row y).2.2.2.2.2.2
def mj_look {α : Type} : List (Nat × α) → Nat → Option α
  | [], _ => none
  | (k, v) :: t, i => if k = i then some v else mj_look t i
def mj_fl (cn idx : Nat) : Option (Nat × Nat × Nat) := mj_look (mj_fts.getD cn []) idx
def mj_cl2 (cn idx : Nat) : Option (Nat × Nat × Nat) := mj_look (mj_cts.getD cn []) idx
def mj_kl (cn idx : Nat) : Option (Int32 × Nat) := mj_look (mj_kts.getD cn []) idx
/-- wrap-around -/
def mj_w (x : Int) : Int := (x + 2147483648) % 4294967296 - 2147483648
def mj_w8 (x : Int) : Int := (x + 128) % 256 - 128
def mj_w64 (x : Int) : Int := (x + 9223372036854775808) % 18446744073709551616 - 9223372036854775808
def mj_and (a b : Int) : Int := (Int32.ofInt a &&& Int32.ofInt b).toInt
def mj_or (a b : Int) : Int := (Int32.ofInt a ||| Int32.ofInt b).toInt
def mj_shl (a b : Int) : Int := (Int32.ofInt a <<< (Int32.ofInt b &&& 31)).toInt
def mj_shr (a b : Int) : Int := (Int32.ofInt a >>> (Int32.ofInt b &&& 31)).toInt
def mj_div (a b : Int) : Int := (Int32.ofInt a / Int32.ofInt b).toInt
def mj_rem (a b : Int) : Int := (Int32.ofInt a - Int32.ofInt a / Int32.ofInt b * Int32.ofInt b).toInt
def mj_cmp (a b : Int) : Int := if a < b then -1 else if a = b then 0 else 1
/-- one int is written -/
def mj_u (f : mj_F) (a i : Nat) (v : Int) : mj_F := fun b j => if b = a ∧ j = i then v else f b j
/-- one reference is written -/
def mj_ug (w : mj_W) (a i v : Nat) : mj_W := (w.1, fun b j => if b = a ∧ j = i then v else w.2.1 b j, w.2.2.1, w.2.2.2)
/-- a new cell of kind t, of n slots -/
def mj_new (w : mj_W) (t : Nat × Nat) (n : Nat) : mj_W := (fun b => if b = w.2.2.1 then t else w.1 b, fun b j => if b = w.2.2.1 then 0 else w.2.1 b j, w.2.2.1 + 1, w.2.2.2 + n)
def mj_z (f : mj_F) (a : Nat) : mj_F := fun b j => if b = a then 0 else f b j
/-- a row is copied -/
def mj_cpy (f : mj_F) (a sp d dp n : Nat) : mj_F := fun b j => if b = d ∧ dp ≤ j ∧ j < dp + n then f a (sp + (j - dp)) else f b j
/-- the cell of a thrown exception -/
def mj_junk (w : mj_W) : mj_W := (w.1, w.2.1, w.2.2.1 + 1, w.2.2.2 + 6)
def mj_set (ls : List mj_V) (k : Nat) (v : mj_V) : List mj_V :=
  (match k with
   | 0 => ls
   | j + 1 => match ls[j]? with
     | some (.inr (.inr (.inl _))) => ls.set j (.inr (.inr (.inr 0)))
     | _ => ls).set k v
def mj_j (pc : Nat) (off : Int) : Option Nat := if 0 ≤ (pc : Int) + off then some ((pc : Int) + off).toNat else none
abbrev mj_T : Type := mj_W × mj_F × Nat × List mj_V × List mj_V
def mj_jmp (w : mj_W) (f : mj_F) (pc : Nat) (off : Int) (ls st : List mj_V) : Option mj_T := match mj_j pc off with
  | some t => some (w, f, t, ls, st)
  | none => none
def mj_if (c : Prop) [Decidable c] (w : mj_W) (f : mj_F) (pc : Nat) (off : Int) (ls st : List mj_V) : Option mj_T := if c then mj_jmp w f pc off ls st else if 0 ≤ (pc : Int) + off then some (w, f, pc + 3, ls, st) else none
def mj_ldi (w : mj_W) (f : mj_F) (pc' : Nat) (ls st : List mj_V) (k : Nat) : Option mj_T := match ls[k]? with
  | some (.inl v) => some (w, f, pc', ls, .inl v :: st)
  | _ => none
def mj_ldl (w : mj_W) (f : mj_F) (pc' : Nat) (ls st : List mj_V) (k : Nat) : Option mj_T := match ls[k]? with
  | some (.inr (.inr (.inl v))) => some (w, f, pc', ls, .inr (.inr (.inl v)) :: st)
  | _ => none
def mj_lda (w : mj_W) (f : mj_F) (pc' : Nat) (ls st : List mj_V) (k : Nat) : Option mj_T := match ls[k]? with
  | some (.inr (.inl v)) => some (w, f, pc', ls, .inr (.inl v) :: st)
  | _ => none
def mj_sti (w : mj_W) (f : mj_F) (pc' : Nat) (ls st : List mj_V) (k : Nat) : Option mj_T := match st with
  | .inl v :: r => if k < ls.length then some (w, f, pc', mj_set ls k (.inl v), r) else none
  | _ => none
def mj_stl (w : mj_W) (f : mj_F) (pc' : Nat) (ls st : List mj_V) (k : Nat) : Option mj_T := match st with
  | .inr (.inr (.inl v)) :: r => if k + 1 < ls.length then some (w, f, pc', (mj_set ls k (.inr (.inr (.inl v)))).set (k + 1) (.inr (.inr (.inr 0))), r) else none
  | _ => none
def mj_sta (w : mj_W) (f : mj_F) (pc' : Nat) (ls st : List mj_V) (k : Nat) : Option mj_T := match st with
  | .inr (.inl v) :: r => if k < ls.length then some (w, f, pc', mj_set ls k (.inr (.inl v)), r) else none
  | _ => none
def mj_b2 (w : mj_W) (f : mj_F) (pc : Nat) (ls st : List mj_V) (op : Int → Int → Int) : Option mj_T := match st with
  | .inl b :: .inl a :: r => some (w, f, pc + 1, ls, .inl (op a b) :: r)
  | _ => none
def mj_b1 (w : mj_W) (f : mj_F) (pc : Nat) (ls st : List mj_V) (op : Int → Int) : Option mj_T := match st with
  | .inl a :: r => some (w, f, pc + 1, ls, .inl (op a) :: r)
  | _ => none
def mj_l2 (w : mj_W) (f : mj_F) (pc : Nat) (ls st : List mj_V) (op : Int → Int → mj_V) : Option mj_T := match st with
  | .inr (.inr (.inl b)) :: .inr (.inr (.inl a)) :: r => some (w, f, pc + 1, ls, op a b :: r)
  | _ => none
/-- an index is within a row -/
def mj_in (j : Int) (n : Nat) : Prop := 0 ≤ j ∧ j < n
theorem mj_in_def (j : Int) (n : Nat) : mj_in j n ↔ 0 ≤ j ∧ j < n := Iff.rfl
def mj_inb (j : Int) (n : Nat) : Bool := decide (0 ≤ j) && decide (j < n)
def mj_isInit (y : Nat) : Bool := (mj_row y).1.name == "<init>"
/-- may a method write the field: it isn't final, or the method is a constructor of its class -/
def mj_mayPut (y ci k : Nat) : Bool := !((mj_cl.getD ci ("", TX0, 0)).2.1 k).2.2.2 || (mj_isInit y && mj_cn y == ci)
def mj_getf (y : Nat) (w : mj_W) (f : mj_F) (pc : Nat) (ls st : List mj_V) (idx : Nat) : Option mj_T := match st, mj_fl (mj_cn y) idx with
  | .inr (.inl a) :: r, some (ci, k, _) =>
    if w.1 a = (ci, 0) then
      (if mj_kind ci k = 2 then (if w.2.1 a k = 0 then none else some (w, f, pc + 3, ls, .inr (.inl (w.2.1 a k)) :: r)) else some (w, f, pc + 3, ls, .inl (f a k) :: r))
    else none
  | _, _ => none
def mj_putf (y : Nat) (w : mj_W) (f : mj_F) (pc : Nat) (ls st : List mj_V) (idx : Nat) : Option mj_T := match st, mj_fl (mj_cn y) idx with
  | .inl v :: .inr (.inl a) :: r, some (ci, k, _) =>
    if mj_mayPut y ci k = true then
      (if w.1 a = (ci, 0) ∧ (mj_kind ci k = 0 ∨ mj_kind ci k = 1 ∧ (v = 0 ∨ v = 1)) then some (w, mj_u f a k v, pc + 3, ls, r) else none) else none
  | .inr (.inl v) :: .inr (.inl a) :: r, some (ci, k, _) =>
    if mj_mayPut y ci k = true then
      (if w.1 a = (ci, 0) ∧ mj_kind ci k = 2 ∧ 2 ≤ v then some (mj_ug w a k v, f, pc + 3, ls, r) else none) else none
  | _, _ => none
def mj_iald (w : mj_W) (f : mj_F) (pc : Nat) (ls st : List mj_V) : Option mj_T := match st with
  | .inl j :: .inr (.inl a) :: r => if ((w.1 a).1 = 100 ∨ (w.1 a).1 = 104) ∧ 0 ≤ j ∧ j < (w.1 a).2 then some (w, f, pc + 1, ls, .inl (f a j.toNat) :: r) else none
  | _ => none
def mj_bald (w : mj_W) (f : mj_F) (pc : Nat) (ls st : List mj_V) : Option mj_T := match st with
  | .inl j :: .inr (.inl a) :: r => if (w.1 a).1 = 101 ∧ 0 ≤ j ∧ j < (w.1 a).2 then some (w, f, pc + 1, ls, .inl (f a j.toNat) :: r) else none
  | _ => none
def mj_lald (w : mj_W) (f : mj_F) (pc : Nat) (ls st : List mj_V) : Option mj_T := match st with
  | .inl j :: .inr (.inl a) :: r => if (w.1 a).1 = 103 ∧ 0 ≤ j ∧ j < (w.1 a).2 then some (w, f, pc + 1, ls, .inr (.inr (.inl (f a j.toNat))) :: r) else none
  | _ => none
def mj_aald (w : mj_W) (f : mj_F) (pc : Nat) (ls st : List mj_V) : Option mj_T := match st with
  | .inl j :: .inr (.inl a) :: r => if (w.1 a).1 = 102 ∧ (0 ≤ j ∧ j < (w.1 a).2) ∧ w.2.1 a j.toNat ≠ 0 then some (w, f, pc + 1, ls, .inr (.inl (w.2.1 a j.toNat)) :: r) else none
  | _ => none
def mj_iast (w : mj_W) (f : mj_F) (pc : Nat) (ls st : List mj_V) : Option mj_T := match st with
  | .inl v :: .inl j :: .inr (.inl a) :: r => if (w.1 a).1 = 100 ∧ 0 ≤ j ∧ j < (w.1 a).2 then some (w, mj_u f a j.toNat v, pc + 1, ls, r) else none
  | _ => none
def mj_bast (w : mj_W) (f : mj_F) (pc : Nat) (ls st : List mj_V) : Option mj_T := match st with
  | .inl v :: .inl j :: .inr (.inl a) :: r => if (w.1 a).1 = 101 ∧ 0 ≤ j ∧ j < (w.1 a).2 then some (w, mj_u f a j.toNat (mj_w8 v), pc + 1, ls, r) else none
  | _ => none
def mj_aast (w : mj_W) (f : mj_F) (pc : Nat) (ls st : List mj_V) : Option mj_T := match st with
  | .inr (.inl v) :: .inl j :: .inr (.inl a) :: r => if (w.1 a).1 = 102 ∧ (0 ≤ j ∧ j < (w.1 a).2) ∧ w.1 v = (7, 0) then some (mj_ug w a j.toNat v, f, pc + 1, ls, r) else none
  | _ => none
def mj_alen (w : mj_W) (f : mj_F) (pc : Nat) (ls st : List mj_V) : Option mj_T := match st with
  | .inr (.inl a) :: r => if (100 ≤ (w.1 a).1 ∧ (w.1 a).1 ≤ 104) ∧ (w.1 a).2 < 2147483648 then some (w, f, pc + 1, ls, .inl ((w.1 a).2 : Int) :: r) else none
  | _ => none
def mj_newa (w : mj_W) (f : mj_F) (pc' : Nat) (ls st : List mj_V) (k : Nat) : Option mj_T := match st with
  | .inl n :: r => if 0 ≤ n ∧ n < 1000000 then some (mj_new w (k, n.toNat) n.toNat, mj_z f w.2.2.1, pc', ls, .inr (.inl w.2.2.1) :: r) else none
  | _ => none
def mj_newo (y : Nat) (w : mj_W) (f : mj_F) (pc : Nat) (ls st : List mj_V) (idx : Nat) : Option mj_T := match mj_cl2 (mj_cn y) idx with
  | some (9, ci, _) => if ci < 10 then some (mj_new w (ci, 0) (mj_nf ci), mj_z f w.2.2.1, pc + 3, ls, .inr (.inl w.2.2.1) :: st) else none
  | _ => none
def mj_anew (y : Nat) (w : mj_W) (f : mj_F) (pc : Nat) (ls st : List mj_V) (idx : Nat) : Option mj_T := match mj_cl2 (mj_cn y) idx with
  | some (9, 7, _) => mj_newa w f (pc + 3) ls st 102
  | _ => none
/-- how much of the stack stays below a call -/
def mj_cat (v : mj_V) : Nat := match v with
  | .inr (.inr (.inl _)) => 2
  | _ => 1
def mj_low (st : List mj_V) : Bool := decide ((st.map mj_cat).sum ≤ 8)
def mj_spec (y : Nat) (w : mj_W) (f : mj_F) (pc : Nat) (ls st : List mj_V) (idx : Nat) : Option mj_T := match mj_cl2 (mj_cn y) idx, st with
  | some (6, _, _), .inr (.inl _) :: r => if mj_low r = true then some (w, f, pc + 3, ls, r) else none
  | _, _ => none
def mj_copy (y : Nat) (w : mj_W) (f : mj_F) (pc : Nat) (ls st : List mj_V) (idx : Nat) : Option mj_T := match mj_cl2 (mj_cn y) idx, st with
  | some (7, _, _), .inl n :: .inl dp :: .inr (.inl d) :: .inl sp :: .inr (.inl a) :: r =>
    if (w.1 a).1 = 100 ∧ (w.1 d).1 = 100 ∧ 0 ≤ n ∧ 0 ≤ sp ∧ 0 ≤ dp ∧ sp + n ≤ (w.1 a).2 ∧ dp + n ≤ (w.1 d).2 ∧ mj_low r = true then
      some (w, mj_cpy f a sp.toNat d dp.toNat n.toNat, pc + 3, ls, r) else none
  | some (12, _, _), .inl b :: .inl a :: r => if mj_low r = true then some (w, f, pc + 3, ls, .inl (if a < b then b else a) :: r) else none
  | some (13, _, _), .inl b :: .inl a :: r => if mj_low r = true then some (w, f, pc + 3, ls, .inl (if b < a then b else a) :: r) else none
  | some (14, _, _), .inl a :: r => if mj_low r = true then some (w, f, pc + 3, ls, .inl (if 0 ≤ a then a else mj_w (0 - a)) :: r) else none
  | _, _ => none
def mj_stp (y : Nat) (i : Instr) (w : mj_W) (f : mj_F) (pc : Nat) (ls st : List mj_V) : Option mj_T :=
  match i with
  | .iconst n => some (w, f, pc + 1, ls, .inl (Int32.ofInt n).toInt :: st)
  | .bipush n => some (w, f, pc + 2, ls, .inl (Int8.ofInt n).toInt32.toInt :: st)
  | .sipush n => some (w, f, pc + 3, ls, .inl (Int16.ofInt n).toInt32.toInt :: st)
  | .lconst n => some (w, f, pc + 1, ls, .inr (.inr (.inl ((n : Nat) : Int))) :: st)
  | .ldc idx => match mj_kl (mj_cn y) idx with
    | some (v, _) => some (w, f, pc + 2, ls, .inl v.toInt :: st)
    | none => none
  | .ldc_w idx => match mj_kl (mj_cn y) idx with
    | some (v, _) => some (w, f, pc + 3, ls, .inl v.toInt :: st)
    | none => none
  | .iload k => mj_ldi w f (pc + 2) ls st k
  | .iload_n k => mj_ldi w f (pc + 1) ls st k
  | .lload k => mj_ldl w f (pc + 2) ls st k
  | .lload_n k => mj_ldl w f (pc + 1) ls st k
  | .aload k => mj_lda w f (pc + 2) ls st k
  | .aload_n k => mj_lda w f (pc + 1) ls st k
  | .istore k => mj_sti w f (pc + 2) ls st k
  | .istore_n k => mj_sti w f (pc + 1) ls st k
  | .lstore k => mj_stl w f (pc + 2) ls st k
  | .lstore_n k => mj_stl w f (pc + 1) ls st k
  | .astore k => mj_sta w f (pc + 2) ls st k
  | .astore_n k => mj_sta w f (pc + 1) ls st k
  | .iinc k n => match ls[k]? with
    | some (.inl v) => some (w, f, pc + 3, mj_set ls k (.inl (mj_w (v + n))), st)
    | _ => none
  | .iadd => mj_b2 w f pc ls st (fun a b => mj_w (a + b))
  | .isub => mj_b2 w f pc ls st (fun a b => mj_w (a - b))
  | .imul => mj_b2 w f pc ls st (fun a b => mj_w (a * b))
  | .iand => mj_b2 w f pc ls st mj_and
  | .ior => mj_b2 w f pc ls st mj_or
  | .ishl => mj_b2 w f pc ls st mj_shl
  | .ishr => mj_b2 w f pc ls st mj_shr
  | .idiv => match st with
    | .inl b :: .inl a :: r => if b = 0 then none else some (w, f, pc + 1, ls, .inl (mj_div a b) :: r)
    | _ => none
  | .irem => match st with
    | .inl b :: .inl a :: r => if b = 0 then none else some (w, f, pc + 1, ls, .inl (mj_rem a b) :: r)
    | _ => none
  | .ineg => mj_b1 w f pc ls st (fun a => mj_w (-a))
  | .i2b => mj_b1 w f pc ls st mj_w8
  | .i2l => match st with
    | .inl a :: r => some (w, f, pc + 1, ls, .inr (.inr (.inl a)) :: r)
    | _ => none
  | .lsub => mj_l2 w f pc ls st (fun a b => .inr (.inr (.inl (mj_w64 (a - b)))))
  | .lmul => mj_l2 w f pc ls st (fun a b => .inr (.inr (.inl (mj_w64 (a * b)))))
  | .lcmp => mj_l2 w f pc ls st (fun a b => .inl (mj_cmp a b))
  | .dup => match st with
    | .inl a :: r => some (w, f, pc + 1, ls, .inl a :: .inl a :: r)
    | .inr (.inl a) :: r => some (w, f, pc + 1, ls, .inr (.inl a) :: .inr (.inl a) :: r)
    | _ => none
  | .dup2 => match st with
    | .inl b :: .inr (.inl a) :: r => some (w, f, pc + 1, ls, .inl b :: .inr (.inl a) :: .inl b :: .inr (.inl a) :: r)
    | _ => none
  | .pop => match st with
    | .inl _ :: r => some (w, f, pc + 1, ls, r)
    | .inr (.inl _) :: r => some (w, f, pc + 1, ls, r)
    | _ => none
  | .goto off => mj_jmp w f pc off ls st
  | .ifCond c off => match st with
    | .inl a :: r => match c with
      | .eq => mj_if (a = 0) w f pc off ls r
      | .ne => mj_if (¬ a = 0) w f pc off ls r
      | .lt => mj_if (a < 0) w f pc off ls r
      | .ge => mj_if (0 ≤ a) w f pc off ls r
      | .gt => mj_if (0 < a) w f pc off ls r
      | .le => mj_if (a ≤ 0) w f pc off ls r
    | _ => none
  | .if_icmp c off => match st with
    | .inl b :: .inl a :: r => match c with
      | .eq => mj_if (a = b) w f pc off ls r
      | .ne => mj_if (¬ a = b) w f pc off ls r
      | .lt => mj_if (a < b) w f pc off ls r
      | .ge => mj_if (b ≤ a) w f pc off ls r
      | .gt => mj_if (b < a) w f pc off ls r
      | .le => mj_if (a ≤ b) w f pc off ls r
    | _ => none
  | .tableswitch dflt lo hi offs => match st with
    | .inl a :: r => if a < lo ∨ hi < a then mj_jmp w f pc dflt ls r else match offs[(a - lo).toNat]? with
      | some off => mj_jmp w f pc off ls r
      | none => none
    | _ => none
  | .lookupswitch dflt ps => match st with
    | .inl a :: r => if (ps.toList.zip (ps.toList.drop 1)).all (fun (a, next) => a.1 < next.1) = true then mj_jmp w f pc (Op.lookupswitch.offset ps.toList dflt a) ls r else none
    | _ => none
  | .getfield idx => mj_getf y w f pc ls st idx
  | .putfield idx => mj_putf y w f pc ls st idx
  | .iaload => mj_iald w f pc ls st
  | .baload => mj_bald w f pc ls st
  | .laload => mj_lald w f pc ls st
  | .aaload => mj_aald w f pc ls st
  | .iastore => mj_iast w f pc ls st
  | .bastore => mj_bast w f pc ls st
  | .aastore => mj_aast w f pc ls st
  | .arraylength => mj_alen w f pc ls st
  | .newarray .int => mj_newa w f (pc + 2) ls st 100
  | .newarray .byte => mj_newa w f (pc + 2) ls st 101
  | .newarray .long => mj_newa w f (pc + 2) ls st 103
  | .new idx => mj_newo y w f pc ls st idx
  | .anewarray idx => mj_anew y w f pc ls st idx
  | .invokespecial idx => mj_spec y w f pc ls st idx
  | .invokestatic idx => mj_copy y w f pc ls st idx
  | _ => none
/-- does the method end here, and with what (a thrown exception: its kind) -/
def mj_end (y : Nat) (i : Instr) (w : mj_W) (st : List mj_V) : Option (mj_W × Option mj_V) := match i with
  | .ireturn => match st with
    | .inl v :: [] => if mj_rt y = some .int ∨ mj_rt y = some .boolean ∧ (v = 0 ∨ v = 1) then some (w, some (.inl v)) else none
    | _ => none
  | .areturn => match st with
    | .inr (.inl a) :: [] => if 2 ≤ a ∧ mj_rt y = some (.object "ClockZones$Times") then some (w, some (.inr (.inl a))) else none
    | _ => none
  | .return_ => match st with
    | [] => if mj_rt y = none then some (w, none) else none
    | _ => none
  | .new idx => match mj_cl2 (mj_cn y) idx, st with
    | some (11, k, _), [] => some (mj_junk w, some (.inr (.inr (.inr k))))
    | _, _ => none
  | _ => none
/-- a call of a method of the table: its number, its arguments, what stays on the stack; behind a wrapper of the law: the row for the answer -/
def mj_args (w : mj_W) (st : List mj_V) (cy : Nat) (virt : Bool) : Option (Nat × List mj_V × List mj_V × Nat) :=
  if mj_ar cy ≤ st.length ∧ mj_low (st.drop (mj_ar cy)) = true ∧ (st.take (mj_ar cy)).all (fun v => mj_cat v == 1) = true then
    (match (st.take (mj_ar cy)).reverse, virt with
     | .inr (.inl a) :: as, true => if w.1 a = (mj_cn cy, 0) then some (cy, .inr (.inl a) :: as, st.drop (mj_ar cy), 0) else none
     | _, true => none
     | as, false => some (cy, as, st.drop (mj_ar cy), 0))
  else none
/-- calls go down -/
def mj_dn (y cy : Nat) (o : Option (Nat × List mj_V × List mj_V × Nat)) : Option (Nat × List mj_V × List mj_V × Nat) := if mj_lev cy < mj_lev y then o else none
def mj_callee (y : Nat) (i : Instr) (w : mj_W) (st : List mj_V) : Option (Nat × List mj_V × List mj_V × Nat) := match i with
  | .invokevirtual idx => match mj_cl2 (mj_cn y) idx with
    | some (0, cy, _) => mj_dn y cy (mj_args w st cy true)
    | some (1, cy, _) => mj_dn y cy (mj_args w st cy true)
    | _ => none
  | .invokestatic idx => match mj_cl2 (mj_cn y) idx, st with
    | some (2, cy, _), st => mj_dn y cy (mj_args w st cy false)
    | some (3, cy, _), st => mj_dn y cy (mj_args w st cy false)
    | some (8, cy, _), .inr (.inl o) :: .inl b :: .inl a :: .inr (.inl x) :: r => if w.1 o = (103, 1) ∧ w.1 x = (8, 0) ∧ mj_low r = true then some (cy, [.inr (.inl x), .inl a, .inl b], r, o) else none
    | _, _ => none
  | .invokespecial idx => match mj_cl2 (mj_cn y) idx with
    | some (4, cy, _) => mj_dn y cy (mj_args w st cy true)
    | some (5, cy, _) => mj_dn y cy (mj_args w st cy true)
    | _ => none
  | _ => none
def mj_pad (y : Nat) (as : List mj_V) : List mj_V := as ++ List.replicate (mj_nL y - as.length) (.inr (.inr (.inr 0)))
/-- what a call answers: k = 0 as the method does; else as the law's wrapper does, with the row k -/
def mj_ret (k : Nat) (f : mj_F) (v : Option mj_V) : Option (mj_F × Option mj_V) := match k, v with
  | 0, some (.inr (.inr (.inr _))) => none
  | 0, v => some (f, v)
  | k + 1, some (.inl r) => some (mj_u f (k + 1) 0 r, some (.inl 0))
  | _ + 1, some (.inr (.inr (.inr e))) => some (f, some (.inl (e : Int)))
  | _, _ => none
/-- the length of an instruction (0: any) -/
def mj_len (i : Instr) : Nat := match i with
  | .iload _ => 2 | .lload _ => 2 | .aload _ => 2 | .istore _ => 2 | .lstore _ => 2 | .astore _ => 2 | .bipush _ => 2 | .ldc _ => 2 | .newarray _ => 2
  | .sipush _ => 3 | .ldc_w _ => 3 | .iinc _ _ => 3 | .goto _ => 3 | .ifCond _ _ => 3 | .if_icmp _ _ => 3 | .getfield _ => 3 | .putfield _ => 3
  | .invokevirtual _ => 3 | .invokespecial _ => 3 | .invokestatic _ => 3 | .new _ => 3 | .anewarray _ => 3
  | .tableswitch _ _ _ _ => 0 | .lookupswitch _ _ => 0
  | _ => 1
def mj_dec (y pc : Nat) : Option Instr := match decode (mj_code y) pc with
  | .ok (i, n) => if mj_len i = 0 ∨ n = mj_len i then some i else none
  | _ => none
abbrev mj_N : Type := (mj_W × Option mj_V) ⊕ ((Nat × List mj_V × List mj_V × Nat) ⊕ mj_T)
/-- may a method make cells, write references, throw -/
def mj_imp (y : Nat) : Bool := mj_imps.contains y
/-- does an instruction leave the cells and the references alone -/
def mj_keepw (y : Nat) (i : Instr) : Bool := match i with
  | .new _ => false
  | .newarray _ => false
  | .anewarray _ => false
  | .aastore => false
  | .putfield idx => match mj_fl (mj_cn y) idx with
    | some (ci, k, _) => !(mj_kind ci k == 2)
    | none => false
  | _ => true
def mj_nx (y : Nat) (w : mj_W) (f : mj_F) (pc : Nat) (ls st : List mj_V) : Option mj_N := match mj_dec y pc with
  | some i => if mj_imp y = true ∨ mj_keepw y i = true then
      (match mj_end y i w st with
      | some r => some (.inl r)
      | none => match mj_callee y i w st with
        | some r => if mj_imp y = true ∨ mj_imp r.1 = false then some (.inr (.inl r)) else none
        | none => match mj_stp y i w f pc ls st with
          | some r => some (.inr (.inr r))
          | none => none)
    else none
  | none => none
abbrev mj_O : Type := mj_W × mj_F × Option mj_V
def mj_exec : Nat → Nat → mj_W → mj_F → Nat → List mj_V → List mj_V → Option mj_O
  | 0, _, _, _, _, _, _ => none
  | n + 1, y, w, f, pc, ls, st => match mj_nx y w f pc ls st with
    | some (.inl (w', v)) => some (w', f, v)
    | some (.inr (.inl (cy, as, rest, k))) => match mj_exec n cy w f 0 (mj_pad cy as) [] with
      | some (w', f', v) => match mj_ret k f' v with
        | some (f'', v') => mj_exec n y w' f'' (pc + 3) ls (v'.toList ++ rest)
        | none => none
      | none => none
    | some (.inr (.inr (w', f', pc', ls', st'))) => mj_exec n y w' f' pc' ls' st'
    | none => none
theorem mj_mono1 : ∀ (n y : Nat) (w : mj_W) (f : mj_F) (pc : Nat) (ls st : List mj_V) (r : mj_O), mj_exec n y w f pc ls st = some r → mj_exec (n + 1) y w f pc ls st = some r := by
  intro n
  induction n with
  | zero => intro y w f pc ls st r h; simp [mj_exec] at h
  | succ n ih =>
    intro y w f pc ls st r h
    rw [mj_exec] at h
    rw [mj_exec]
    cases hn : mj_nx y w f pc ls st with
    | none => rw [hn] at h; simp at h
    | some q =>
      rw [hn] at h
      rcases q with ⟨w', v⟩ | ⟨cy, as, rest, k⟩ | ⟨w', f', pc', ls', st'⟩
      · exact h
      · dsimp only at h ⊢
        cases hc : mj_exec n cy w f 0 (mj_pad cy as) [] with
        | none => rw [hc] at h; simp at h
        | some q =>
          obtain ⟨w', f', v⟩ := q
          rw [hc] at h
          rw [ih _ _ _ _ _ _ _ hc]
          dsimp only at h ⊢
          cases hr : mj_ret k f' v with
          | none => rw [hr] at h; simp at h
          | some q =>
            obtain ⟨f'', v'⟩ := q
            rw [hr] at h
            dsimp only at h ⊢
            exact ih _ _ _ _ _ _ _ h
      · exact ih _ _ _ _ _ _ _ h
theorem mj_mono {n m : Nat} (hnm : n ≤ m) {y : Nat} {w : mj_W} {f : mj_F} {pc : Nat} {ls st : List mj_V} {r : mj_O} (h : mj_exec n y w f pc ls st = some r) : mj_exec m y w f pc ls st = some r := by
  induction hnm with
  | refl => exact h
  | step _ ih => exact mj_mono1 _ _ _ _ _ _ _ _ ih
/-- what a method comes to, from a place in it; none if it comes to no end -/
noncomputable def mj_run (y : Nat) (w : mj_W) (f : mj_F) (pc : Nat) (ls st : List mj_V) : Option mj_O :=
  @dite _ (∃ r, ∃ n, mj_exec n y w f pc ls st = some r) (Classical.propDecidable _) (fun h => some (Classical.choose h)) (fun _ => none)
theorem mj_run_of {n y : Nat} {w : mj_W} {f : mj_F} {pc : Nat} {ls st : List mj_V} {r : mj_O} (h : mj_exec n y w f pc ls st = some r) : mj_run y w f pc ls st = some r := by
  have hx : ∃ r, ∃ n, mj_exec n y w f pc ls st = some r := ⟨r, n, h⟩
  unfold mj_run
  rw [dif_pos hx]
  obtain ⟨k, hk⟩ := Classical.choose_spec hx
  have h1 := mj_mono (Nat.le_max_left n k) h
  have h2 := mj_mono (Nat.le_max_right n k) hk
  rw [h1] at h2
  exact h2.symm
theorem mj_run_ex {y : Nat} {w : mj_W} {f : mj_F} {pc : Nat} {ls st : List mj_V} {r : mj_O} (h : mj_run y w f pc ls st = some r) : ∃ n, mj_exec n y w f pc ls st = some r := by
  unfold mj_run at h
  by_cases hx : ∃ r, ∃ n, mj_exec n y w f pc ls st = some r
  · rw [dif_pos hx] at h
    have h2 := Classical.choose_spec hx
    rw [Option.some.inj h] at h2
    exact h2
  · rw [dif_neg hx] at h
    exact absurd h (by simp)
theorem mj_run_eq {y y' : Nat} {w w' : mj_W} {f f' : mj_F} {pc pc' : Nat} {ls ls' st st' : List mj_V} (h : ∀ r, (∃ n, mj_exec n y w f pc ls st = some r) ↔ ∃ n, mj_exec n y' w' f' pc' ls' st' = some r) : mj_run y w f pc ls st = mj_run y' w' f' pc' ls' st' := by
  cases h1 : mj_run y w f pc ls st with
  | some r =>
    obtain ⟨n, hn⟩ := (h r).mp (mj_run_ex h1)
    exact (mj_run_of hn).symm
  | none =>
    cases h2 : mj_run y' w' f' pc' ls' st' with
    | none => rfl
    | some r =>
      obtain ⟨n, hn⟩ := (h r).mpr (mj_run_ex h2)
      rw [mj_run_of hn] at h1
      exact absurd h1 (by simp)
/-- a method's answer -/
noncomputable def mj_call (y : Nat) (w : mj_W) (f : mj_F) (as : List mj_V) : Option mj_O := mj_run y w f 0 (mj_pad y as) []
theorem mj_run_step {y : Nat} {w w' : mj_W} {f f' : mj_F} {pc pc' : Nat} {ls ls' st st' : List mj_V} (h : mj_nx y w f pc ls st = some (.inr (.inr (w', f', pc', ls', st')))) : mj_run y w f pc ls st = mj_run y w' f' pc' ls' st' := by
  refine mj_run_eq fun r => ⟨fun ⟨n, hn⟩ => ?_, fun ⟨n, hn⟩ => ⟨n + 1, ?_⟩⟩
  · cases n with
    | zero => simp [mj_exec] at hn
    | succ n =>
      rw [mj_exec, h] at hn
      exact ⟨n, hn⟩
  · rw [mj_exec, h]
    exact hn
theorem mj_run_end {y : Nat} {w w' : mj_W} {f : mj_F} {pc : Nat} {ls st : List mj_V} {v : Option mj_V} (h : mj_nx y w f pc ls st = some (.inl (w', v))) : mj_run y w f pc ls st = some (w', f, v) := by
  refine mj_run_of (n := 1) ?_
  rw [mj_exec, h]
/-- goes on behind a call -/
noncomputable def mj_then (k : Nat) (o : Option mj_O) (y pc : Nat) (ls rest : List mj_V) : Option mj_O := match o with
  | some (w', f', v) => match mj_ret k f' v with
    | some (f'', v') => mj_run y w' f'' (pc + 3) ls (v'.toList ++ rest)
    | none => none
  | none => none
theorem mj_run_call {y : Nat} {w : mj_W} {f : mj_F} {pc : Nat} {ls st : List mj_V} {cy k : Nat} {as rest : List mj_V} (h : mj_nx y w f pc ls st = some (.inr (.inl (cy, as, rest, k)))) : mj_run y w f pc ls st = mj_then k (mj_call cy w f as) y pc ls rest := by
  cases h1 : mj_call cy w f as with
  | none =>
    show mj_run y w f pc ls st = none
    cases h2 : mj_run y w f pc ls st with
    | none => rfl
    | some r =>
      obtain ⟨n, hn⟩ := mj_run_ex h2
      cases n with
      | zero => simp [mj_exec] at hn
      | succ n =>
        rw [mj_exec, h] at hn
        dsimp only at hn
        cases hc : mj_exec n cy w f 0 (mj_pad cy as) [] with
        | none => rw [hc] at hn; simp at hn
        | some q =>
          have h3 : mj_call cy w f as = some q := mj_run_of hc
          rw [h3] at h1
          exact absurd h1 (by simp)
  | some q =>
    obtain ⟨w', f', v⟩ := q
    obtain ⟨n1, hn1⟩ := mj_run_ex h1
    show mj_run y w f pc ls st = mj_then k (some (w', f', v)) y pc ls rest
    unfold mj_then
    dsimp only
    cases hr : mj_ret k f' v with
    | none =>
      dsimp only
      cases h2 : mj_run y w f pc ls st with
      | none => rfl
      | some r =>
        obtain ⟨n, hn⟩ := mj_run_ex h2
        cases n with
        | zero => simp [mj_exec] at hn
        | succ n =>
          rw [mj_exec, h] at hn
          dsimp only at hn
          cases hc : mj_exec n cy w f 0 (mj_pad cy as) [] with
          | none => rw [hc] at hn; simp at hn
          | some q =>
            have h3 : mj_run cy w f 0 (mj_pad cy as) [] = some q := mj_run_of hc
            have h4 := (mj_run_of hn1).symm.trans h3
            cases h4
            rw [hc] at hn
            dsimp only at hn
            rw [hr] at hn
            simp at hn
    | some q =>
      obtain ⟨f'', v'⟩ := q
      dsimp only
      refine mj_run_eq fun r => ⟨fun ⟨n, hn⟩ => ?_, fun ⟨n, hn⟩ => ?_⟩
      · cases n with
        | zero => simp [mj_exec] at hn
        | succ n =>
          rw [mj_exec, h] at hn
          dsimp only at hn
          cases hc : mj_exec n cy w f 0 (mj_pad cy as) [] with
          | none => rw [hc] at hn; simp at hn
          | some q =>
            have h3 : mj_run cy w f 0 (mj_pad cy as) [] = some q := mj_run_of hc
            have h4 := (mj_run_of hn1).symm.trans h3
            cases h4
            rw [hc] at hn
            dsimp only at hn
            rw [hr] at hn
            exact ⟨n, hn⟩
      · refine ⟨max n1 n + 1, ?_⟩
        rw [mj_exec, h]
        dsimp only
        rw [mj_mono (Nat.le_max_left n1 n) hn1]
        dsimp only
        rw [hr]
        exact mj_mono (Nat.le_max_right n1 n) hn
