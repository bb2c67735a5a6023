/-! ===== a small machine: the instructions of these classes over a heap of fixed cells; what it owes, as a Prop that computes ===== -/
abbrev mm_Hp : Type := (Nat → Nat → Int32) × (Nat → Nat → Int64)
/-- a cell: an array (0 int, 1 boolean, 2 long; its length), or an object (its class's number; each field a cell's number, or none: an int) -/
abbrev mm_Lay : Type := (Nat × Nat) ⊕ (Nat × List (Option Nat))
abbrev mm_Tab : Type := List (Nat × Instr × Nat)
abbrev mm_Loc : Type := List (Option Value)
/-- a callee: arguments, 1 if it answers an int, cells made on a road that returns, start, exception (0: none), answer, heap behind it -/
abbrev mm_Ct : Type := Nat × Nat × Nat × (List Value → mm_Hp → Prop) × (List Value → mm_Hp → Nat) × (List Value → mm_Hp → Int32) × (List Value → mm_Hp → mm_Hp)
def mm_V (ad : Nat → Nat) (v : Value) : Value := match v with
  | .ref k => .ref (ad k)
  | v => v
def mm_up (f : Nat → Nat → Int32) (k j : Nat) (x : Int32) : Nat → Nat → Int32 := fun a => cond (Nat.beq a k) (upd (f a) j x) (f a)
def mm_upL (f : Nat → Nat → Int64) (k j : Nat) (x : Int64) : Nat → Nat → Int64 := fun a => cond (Nat.beq a k) (vp_updL (f a) j x) (f a)
def mm_c1 (v : Value) : Bool := match v with
  | .int _ => true
  | .ref _ => true
  | _ => false
def mm_1 (S : List Value) (f : Int32 → Int32) : Option (List Value) := match S with
  | .int x :: r => some (.int (f x) :: r)
  | _ => none
def mm_2 (S : List Value) (f : Int32 → Int32 → Int32) : Option (List Value) := match S with
  | .int y :: .int x :: r => some (.int (f x y) :: r)
  | _ => none
def mm_dup (S : List Value) : Option (List Value) := match S with
  | v :: r => cond (mm_c1 v) (some (v :: v :: r)) none
  | _ => none
def mm_pop (S : List Value) : Option (List Value) := match S with
  | v :: r => cond (mm_c1 v) (some r) none
  | _ => none
def mm_dup_x1 (S : List Value) : Option (List Value) := match S with
  | v :: w :: r => cond (mm_c1 v && mm_c1 w) (some (v :: w :: v :: r)) none
  | _ => none
def mm_dup_x2 (S : List Value) : Option (List Value) := match S with
  | v :: w :: u :: r => cond (mm_c1 v && mm_c1 w && mm_c1 u) (some (v :: w :: u :: v :: r)) none
  | _ => none
def mm_dup2 (S : List Value) : Option (List Value) := match S with
  | v :: w :: r => cond (mm_c1 v && mm_c1 w) (some (v :: w :: v :: w :: r)) none
  | _ => none
def mm_i2l (S : List Value) : Option (List Value) := match S with
  | .int x :: r => some (.long x.toInt64 :: r)
  | _ => none
def mm_lcmp (S : List Value) : Option (List Value) := match S with
  | .long y :: .long x :: r => some (.int (lg_cmp x y) :: r)
  | _ => none
/-- what an instruction on the stack alone makes of it -/
def mm_alu (i : Instr) (S : List Value) : Option (List Value) := match i with
  | .iconst n => some (.int (Int32.ofInt n) :: S)
  | .bipush n => some (.int ((Int8.ofInt n).toInt32) :: S)
  | .sipush n => some (.int ((Int16.ofInt n).toInt32) :: S)
  | .lconst n => some (.long (Int64.ofNat (n : Nat)) :: S)
  | .iadd => mm_2 S (fun x y => x + y)
  | .isub => mm_2 S (fun x y => x - y)
  | .imul => mm_2 S (fun x y => x * y)
  | .iand => mm_2 S (fun x y => x &&& y)
  | .ior => mm_2 S (fun x y => x ||| y)
  | .ixor => mm_2 S (fun x y => x ^^^ y)
  | .ishl => mm_2 S (fun x y => x <<< (y &&& 31))
  | .ishr => mm_2 S (fun x y => x >>> (y &&& 31))
  | .iushr => mm_2 S (fun x y => (x.toUInt32 >>> (y.toUInt32 &&& Int32.toUInt32 31)).toInt32)
  | .ineg => mm_1 S (fun x => -x)
  | .i2l => mm_i2l S
  | .lcmp => mm_lcmp S
  | .dup => mm_dup S
  | .pop => mm_pop S
  | .dup_x1 => mm_dup_x1 S
  | .dup_x2 => mm_dup_x2 S
  | .dup2 => mm_dup2 S
  | _ => none
def mm_ld (L : mm_Loc) (k : Nat) (int : Bool) (S : List Value) : Option (mm_Loc × List Value) := match L[k]?, int with
  | some (some (.int x)), true => some (L, .int x :: S)
  | some (some (.ref x)), false => some (L, .ref x :: S)
  | _, _ => none
def mm_st (L : mm_Loc) (k : Nat) (int : Bool) (S : List Value) : Option (mm_Loc × List Value) := match S, int with
  | .int x :: r, true => cond (Nat.blt k L.length) (some (L.set k (some (.int x)), r)) none
  | .ref x :: r, false => cond (Nat.blt k L.length) (some (L.set k (some (.ref x)), r)) none
  | _, _ => none
def mm_inc (L : mm_Loc) (k : Nat) (n : Int) (S : List Value) : Option (mm_Loc × List Value) := match L[k]? with
  | some (some (.int x)) => some (L.set k (some (.int (x + Int32.ofInt n))), S)
  | _ => none
/-- instructions on the locals -/
def mm_loc (i : Instr) (L : mm_Loc) (S : List Value) : Option (mm_Loc × List Value) := match i with
  | .iload k => mm_ld L k true S
  | .iload_n k => mm_ld L (k : Nat) true S
  | .aload k => mm_ld L k false S
  | .aload_n k => mm_ld L (k : Nat) false S
  | .istore k => mm_st L k true S
  | .istore_n k => mm_st L (k : Nat) true S
  | .astore k => mm_st L k false S
  | .astore_n k => mm_st L (k : Nat) false S
  | .iinc k n => mm_inc L k n S
  | _ => none
def mm_jump (tab : mm_Tab) (pc : Nat) (off : Int) : mm_Tab := tab.dropWhile (fun q => !(decide ((q.1 : Int) = (pc : Int) + off)))
def mm_br (c : ClassFile.Cond) (x y : Int32) (A B : Prop) : Prop := match c with
  | .eq => (x = y → A) ∧ (¬ x = y → B)
  | .ne => (¬ x = y → A) ∧ (x = y → B)
  | .lt => (x < y → A) ∧ (¬ x < y → B)
  | .ge => (y ≤ x → A) ∧ (¬ y ≤ x → B)
  | .gt => (y < x → A) ∧ (¬ y < x → B)
  | .le => (x ≤ y → A) ∧ (¬ x ≤ y → B)
def mm_tsw (go : Int → Prop) (x : Int) : List Int → Int → Prop
  | [], _ => True
  | o :: os, k => (x = k → go o) ∧ mm_tsw go x os (k + 1)
def mm_lsw (go : Int → Prop) (d : Int) (x : Int) : List (Int × Int) → Prop
  | [] => go d
  | (k, o) :: r => (x = k → go o) ∧ (¬ x = k → mm_lsw go d x r)
def mm_get (lay : List mm_Lay) (hp : mm_Hp) (cj : Option (Nat × Nat)) (S : List Value) (go : List Value → Prop) : Prop := match cj, S with
  | some (ci, j), .ref k :: r => match lay[k]? with
    | some (.inr (ci', fs)) => cond (Nat.beq ci ci') (match fs[j]? with
      | some (some q) => go (.ref q :: r)
      | some none => go (.int (hp.1 k j) :: r)
      | none => False) False
    | _ => False
  | _, _ => False
def mm_put (lay : List mm_Lay) (hp : mm_Hp) (cj : Option (Nat × Nat)) (S : List Value) (go : List Value → mm_Hp → Prop) : Prop := match cj, S with
  | some (ci, j), .int x :: .ref k :: r => match lay[k]? with
    | some (.inr (ci', fs)) => cond (Nat.beq ci ci') (match fs[j]? with
      | some none => go r (mm_up hp.1 k j x, hp.2)
      | _ => False) False
    | _ => False
  | _, _ => False
def mm_ald (lay : List mm_Lay) (sc : Option (Nat × (Nat → Int32))) (hp : mm_Hp) (t : Nat) (S : List Value) (go : List Value → Prop) : Prop := match S with
  | .int i :: .ref k :: r => match lay[k]? with
    | some (.inl (t', n)) => cond (Nat.beq t t') (vp_in i n ∧ go ((cond (Nat.beq t 2) (Value.long (hp.2 k i.toNatClampNeg)) (Value.int (hp.1 k i.toNatClampNeg))) :: r)) False
    | none => match sc with
      | some q => cond (Nat.beq k 1000 && Nat.beq t 0) (vp_in i q.1 ∧ go (.int (q.2 i.toNatClampNeg) :: r)) False
      | none => False
    | _ => False
  | _ => False
def mm_alen (lay : List mm_Lay) (sc : Option (Nat × (Nat → Int32))) (S : List Value) (go : List Value → Prop) : Prop := match S with
  | .ref k :: r => match lay[k]? with
    | some (.inl (_, n)) => go (.int (Int32.ofNat n) :: r)
    | none => match sc with
      | some q => cond (Nat.beq k 1000) (go (.int (Int32.ofNat q.1) :: r)) False
      | none => False
    | _ => False
  | _ => False
def mm_ast (lay : List mm_Lay) (hp : mm_Hp) (t : Nat) (S : List Value) (go : List Value → mm_Hp → Prop) : Prop := match S with
  | .int x :: .int i :: .ref k :: r => match lay[k]? with
    | some (.inl (t', n)) => cond (Nat.beq t t' && Nat.blt t 2) (vp_in i n ∧ go r (mm_up hp.1 k i.toNatClampNeg (cond (Nat.beq t 1) (vp_nar .boolean x) x), hp.2)) False
    | _ => False
  | .long x :: .int i :: .ref k :: r => match lay[k]? with
    | some (.inl (t', n)) => cond (Nat.beq t t' && Nat.beq t 2) (vp_in i n ∧ go r (hp.1, mm_upL hp.2 k i.toNatClampNeg x)) False
    | _ => False
  | _ => False
def mm_div (S : List Value) (f : Int32 → Int32 → Int32) (go : List Value → Prop) : Prop := match S with
  | .int y :: .int x :: r => ¬ y = 0 ∧ go (.int (f x y) :: r)
  | _ => False
def mm_if (S : List Value) (c : ClassFile.Cond) (A B : List Value → Prop) : Prop := match S with
  | .int x :: r => mm_br c x 0 (A r) (B r)
  | _ => False
def mm_icmp (S : List Value) (c : ClassFile.Cond) (A B : List Value → Prop) : Prop := match S with
  | .int y :: .int x :: r => mm_br c x y (A r) (B r)
  | _ => False
def mm_split : Nat → List Value → List Value → Option (List Value × List Value)
  | 0, S, acc => some (acc, S)
  | n + 1, v :: S, acc => mm_split n S (v :: acc)
  | _ + 1, [], _ => none
theorem mm_split_s : ∀ (n : Nat) (S acc as rest : List Value), mm_split n S acc = some (as, rest) → S.length = n + rest.length ∧ as.reverse ++ rest = acc.reverse ++ S ∧ as.length = n + acc.length
  | 0, S, acc, as, rest, h => by
    cases h
    exact ⟨by omega, rfl, by omega⟩
  | n + 1, [], acc, as, rest, h => by cases h
  | n + 1, v :: S, acc, as, rest, h => by
    obtain ⟨h1, h2, h3⟩ := mm_split_s n S (v :: acc) as rest h
    refine ⟨by rw [List.length_cons]; omega, ?_, by rw [h3, List.length_cons]; omega⟩
    rw [h2]
    simp
def mm_call (ct : Option mm_Ct) (kb : Nat) (S : List Value) (hp : mm_Hp) (b : Nat) (go : List Value → mm_Hp → Nat → Prop) (th : Nat → mm_Hp → Prop) : Prop := match ct with
  | some (n, r, t, pre, tx, rv, sg) => match mm_split n S [] with
    | some (as, rest) => cond (Nat.ble rest.length 4 && Nat.ble (b + t) kb)
        (pre as hp ∧ (tx as hp = 0 → cond (Nat.beq r 0) (go rest (sg as hp) (b + t)) (go (.int (rv as hp) :: rest) (sg as hp) (b + t))) ∧ ∀ e, tx as hp = e + 1 → th e (sg as hp)) False
    | none => False
  | none => False
