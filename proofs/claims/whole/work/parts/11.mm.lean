/-- what a method's code is held against: its table, the cells' kinds, the script, fields read, fields written, callees, throws, handlers, constants -/
abbrev mm_Cx : Type := mm_Tab × List mm_Lay × Option (Nat × (Nat → Int32)) × (Nat → Option (Nat × Nat)) × (Nat → Option (Nat × Nat)) × (Bool → Nat → Option mm_Ct) × (Nat → Nat → Nat → Option Nat) × (Nat → Nat → Option Nat) × (Nat → Option Int32)
/-- .. and what is asked: at cuts, at a return, at a throw; the cells that a road to a return may make -/
abbrev mm_As : Type := (Nat → Option (mm_Loc → mm_Hp → Prop)) × (Option Int32 → mm_Hp → Prop) × (Nat → mm_Hp → Prop) × Nat
abbrev mm_Go : Type := mm_Tab → mm_Loc → List Value → mm_Hp → Nat → Prop
def mm_thrown (X : mm_Cx) (A : mm_As) (go : mm_Go) (pc : Nat) (L : mm_Loc) (e : Nat) (hp : mm_Hp) (b : Nat) : Prop := match X.2.2.2.2.2.2.2.1 pc e with
  | none => A.2.2.1 e hp
  | some h => match X.1.dropWhile (fun q => !(Nat.beq q.1 h)) with
    | (_, .astore_n k, _) :: nx => cond (Nat.blt (k : Nat) L.length && Nat.ble (b + 1) A.2.2.2) (go nx (L.set k none) [] hp (b + 1)) False
    | (_, .astore k, _) :: nx => cond (Nat.blt k L.length && Nat.ble (b + 1) A.2.2.2) (go nx (L.set k none) [] hp (b + 1)) False
    | _ => False
def mm_throw (X : mm_Cx) (A : mm_As) (rem : mm_Tab) (S : List Value) (hp : mm_Hp) : Prop := match rem with
  | (_, .new k, _) :: (_, .dup, _) :: (_, .ldc t, _) :: (_, .invokespecial d, _) :: (_, .athrow, _) :: _ => match X.2.2.2.2.2.2.1 k t d with
    | some e => S = [] ∧ A.2.2.1 e hp
    | none => False
  | _ => False
def mm_ret (S : List Value) (Rt : Option Int32 → mm_Hp → Prop) (hp : mm_Hp) : Prop := match S with
  | [.int x] => Rt (some x) hp
  | _ => False
def mm_vret (S : List Value) (Rt : Option Int32 → mm_Hp → Prop) (hp : mm_Hp) : Prop := match S with
  | [] => Rt none hp
  | _ => False
def mm_tswS (S : List Value) (d lo hi : Int) (offs : Array Int) (go : Int → List Value → Prop) : Prop := match S with
  | .int x :: r => cond (decide (lo ≤ hi) && Nat.beq offs.size ((hi - lo).toNat + 1)) ((x.toInt < lo ∨ hi < x.toInt → go d r) ∧ mm_tsw (fun o => go o r) x.toInt offs.toList lo) False
  | _ => False
def mm_lswS (S : List Value) (d : Int) (ps : Array (Int × Int)) (go : Int → List Value → Prop) : Prop := match S with
  | .int x :: r => cond ((ps.toList.zip (ps.toList.drop 1)).all (fun q => decide (q.1.1 < q.2.1))) (mm_lsw (fun o => go o r) d x.toInt ps.toList) False
  | _ => False
def mm_ldc (x : Option Int32) (S : List Value) (go : List Value → Prop) : Prop := match x with
  | some v => go (.int v :: S)
  | none => False
/-- the other instructions -/
def mm_oth (X : mm_Cx) (A : mm_As) (go : mm_Go) (pc : Nat) (i : Instr) (rem nx : mm_Tab) (L : mm_Loc) (S : List Value) (hp : mm_Hp) (b : Nat) : Prop := match i with
  | .goto off => go (mm_jump X.1 pc off) L S hp b
  | .ifCond c off => match mm_jump X.1 pc off with
    | [] => False
    | q :: t => mm_if S c (fun r => go (q :: t) L r hp b) (fun r => go nx L r hp b)
  | .if_icmp c off => match mm_jump X.1 pc off with
    | [] => False
    | q :: t => mm_icmp S c (fun r => go (q :: t) L r hp b) (fun r => go nx L r hp b)
  | .tableswitch d lo hi offs => mm_tswS S d lo hi offs (fun o r => go (mm_jump X.1 pc o) L r hp b)
  | .lookupswitch d ps => mm_lswS S d ps (fun o r => go (mm_jump X.1 pc o) L r hp b)
  | .getfield k => mm_get X.2.1 hp (X.2.2.2.1 k) S (fun r => go nx L r hp b)
  | .putfield k => mm_put X.2.1 hp (X.2.2.2.2.1 k) S (fun r h => go nx L r h b)
  | .iaload => mm_ald X.2.1 X.2.2.1 hp 0 S (fun r => go nx L r hp b)
  | .baload => mm_ald X.2.1 X.2.2.1 hp 1 S (fun r => go nx L r hp b)
  | .laload => mm_ald X.2.1 X.2.2.1 hp 2 S (fun r => go nx L r hp b)
  | .iastore => mm_ast X.2.1 hp 0 S (fun r h => go nx L r h b)
  | .bastore => mm_ast X.2.1 hp 1 S (fun r h => go nx L r h b)
  | .lastore => mm_ast X.2.1 hp 2 S (fun r h => go nx L r h b)
  | .arraylength => mm_alen X.2.1 X.2.2.1 S (fun r => go nx L r hp b)
  | .idiv => mm_div S (fun x y => x / y) (fun r => go nx L r hp b)
  | .irem => mm_div S (fun x y => x - x / y * y) (fun r => go nx L r hp b)
  | .invokevirtual k => mm_call (X.2.2.2.2.2.1 false k) A.2.2.2 S hp b (fun r h b' => go nx L r h b') (fun e h => mm_thrown X A go pc L e h b)
  | .invokestatic k => mm_call (X.2.2.2.2.2.1 true k) A.2.2.2 S hp b (fun r h b' => go nx L r h b') (fun e h => mm_thrown X A go pc L e h b)
  | .new _ => mm_throw X A rem S hp
  | .ldc k => mm_ldc (X.2.2.2.2.2.2.2.2 k) S (fun r => go nx L r hp b)
  | .ldc_w k => mm_ldc (X.2.2.2.2.2.2.2.2 k) S (fun r => go nx L r hp b)
  | .ireturn => mm_ret S A.2.1 hp
  | .return_ => mm_vret S A.2.1 hp
  | _ => False
def mm_step (X : mm_Cx) (A : mm_As) (go : mm_Go) (rem : mm_Tab) (L : mm_Loc) (S : List Value) (hp : mm_Hp) (b : Nat) : Prop := match rem with
  | [] => False
  | (pc, i, z) :: nx => match mm_alu i S with
    | some S' => go nx L S' hp b
    | none => match mm_loc i L S with
      | some (L', S') => go nx L' S' hp b
      | none => mm_oth X A go pc i ((pc, i, z) :: nx) nx L S hp b
def mm_go (A : mm_As) (wp : mm_Go) (rem : mm_Tab) (L : mm_Loc) (S : List Value) (hp : mm_Hp) (b : Nat) : Prop := match rem with
  | [] => False
  | q :: nx => match A.1 q.1 with
    | some P => S = [] ∧ P L hp
    | none => wp (q :: nx) L S hp b
/-- WHAT IS OWED from here, with at most so many steps to the next cut -/
def mm_wp (X : mm_Cx) (A : mm_As) : Nat → mm_Go
  | 0 => fun _ _ _ _ _ => False
  | n + 1 => mm_step X A (mm_go A (mm_wp X A n))
def mm_len (i : Instr) (z : Nat) : Bool := match i with
  | .bipush _ => Nat.beq z 2
  | .sipush _ => Nat.beq z 3
  | .iload _ => Nat.beq z 2
  | .istore _ => Nat.beq z 2
  | .aload _ => Nat.beq z 2
  | .astore _ => Nat.beq z 2
  | .ldc _ => Nat.beq z 2
  | .ldc_w _ => Nat.beq z 3
  | .iinc _ _ => Nat.beq z 3
  | .goto _ => Nat.beq z 3
  | .ifCond _ _ => Nat.beq z 3
  | .if_icmp _ _ => Nat.beq z 3
  | .getfield _ => Nat.beq z 3
  | .putfield _ => Nat.beq z 3
  | .invokevirtual _ => Nat.beq z 3
  | .invokestatic _ => Nat.beq z 3
  | .invokespecial _ => Nat.beq z 3
  | .new _ => Nat.beq z 3
  | .tableswitch _ _ _ _ => true
  | .lookupswitch _ _ => true
  | _ => Nat.beq z 1
/-- a table that is the code's -/
def mm_tok (cc : ByteArray) (tab : mm_Tab) : Prop := (∀ q ∈ tab, decode cc q.1 = .ok (q.2.1, q.2.2) ∧ mm_len q.2.1 q.2.2 = true) ∧ ((tab.zip tab.tail).all (fun q => Nat.beq (q.1.1 + q.1.2.2) q.2.1)) = true
def mm_pc (rem : mm_Tab) : Nat := match rem with
  | [] => 0
  | q :: _ => q.1
theorem mm_z {z k : Nat} (h : Nat.beq z k = true) : z = k := Nat.eq_of_beq_eq_true h
theorem mm_2s {S S' : List Value} {f : Int32 → Int32 → Int32} (h : mm_2 S f = some S') : ∃ x y r, S = .int y :: .int x :: r ∧ S' = .int (f x y) :: r := by
  unfold mm_2 at h
  split at h
  · cases h; exact ⟨_, _, _, rfl, rfl⟩
  · cases h
theorem mm_1s {S S' : List Value} {f : Int32 → Int32} (h : mm_1 S f = some S') : ∃ x r, S = .int x :: r ∧ S' = .int (f x) :: r := by
  unfold mm_1 at h
  split at h
  · cases h; exact ⟨_, _, rfl, rfl⟩
  · cases h
theorem mm_c1V {ad : Nat → Nat} {v : Value} (h : mm_c1 v = true) : (mm_V ad v).category = 1 := by
  cases v <;> first | rfl | cases h
theorem mm_next {cc : ByteArray} {tab : mm_Tab} (h : mm_tok cc tab) {q : Nat × Instr × Nat} {nx : mm_Tab} (hs : (q :: nx) <:+ tab) (hn : nx ≠ []) : mm_pc nx = q.1 + q.2.2 := by
  obtain ⟨pre, rfl⟩ := hs
  cases nx with
  | nil => exact absurd rfl hn
  | cons q2 nx =>
    have h2 := List.all_eq_true.mp h.2 (q, q2) (by
      refine List.mem_of_getElem? (i := pre.length) ?_
      rw [List.getElem?_zip_eq_some]
      refine ⟨by simp, ?_⟩
      rw [List.getElem?_tail]
      simp)
    exact (Nat.eq_of_beq_eq_true h2).symm
theorem mm_jmp {tab : mm_Tab} {pc : Nat} {off : Int} {q : Nat × Instr × Nat} {nx : mm_Tab} (h : mm_jump tab pc off = q :: nx) : (pc : Int) + off = (q.1 : Int) := by
  have h1 := List.head?_dropWhile_not (fun q : Nat × Instr × Nat => !(decide ((q.1 : Int) = (pc : Int) + off))) tab
  unfold mm_jump at h
  rw [h] at h1
  simp at h1
  exact h1.symm
theorem mm_jsuf (tab : mm_Tab) (pc : Nat) (off : Int) : mm_jump tab pc off <:+ tab := List.dropWhile_suffix _
/-- the locals -/
def mm_Ls (ad : Nat → Nat) (ls : Array Slot) (L : mm_Loc) : Prop := ls.size = L.length ∧ lv_wf ls ∧ ∀ (i : Nat) (v : Value), L[i]? = some (some v) → mm_c1 v = true ∧ ls[i]? = some (.val (mm_V ad v))
def mm_ll (ad : Nat → Nat) (L : mm_Loc) : List (Nat × Value) := L.zipIdx.filterMap (fun q => q.1.map (fun v => (q.2, mm_V ad v)))
theorem mm_ll_in {ad : Nat → Nat} {L : mm_Loc} {i : Nat} {v : Value} (h : L[i]? = some (some v)) : (i, mm_V ad v) ∈ mm_ll ad L := by
  refine List.mem_filterMap.mpr ⟨(some v, i), ?_, rfl⟩
  refine List.mem_of_getElem? (i := i) ?_
  rw [List.getElem?_zipIdx, h]
  simp
theorem mm_ll_of {ad : Nat → Nat} {L : mm_Loc} {q : Nat × Value} (h : q ∈ mm_ll ad L) : ∃ v, L[q.1]? = some (some v) ∧ q.2 = mm_V ad v := by
  obtain ⟨⟨o, i⟩, h1, h2⟩ := List.mem_filterMap.mp h
  obtain ⟨j, hj⟩ := List.getElem?_of_mem h1
  rw [List.getElem?_zipIdx] at hj
  cases hL : L[j]? with
  | none => rw [hL] at hj; cases hj
  | some o2 =>
    rw [hL] at hj
    simp at hj
    obtain ⟨rfl, rfl⟩ := hj
    cases o2 with
    | none => cases h2
    | some v => cases h2; exact ⟨v, hL, rfl⟩
theorem mm_Ls.has {ad : Nat → Nat} {ls : Array Slot} {L : mm_Loc} (h : mm_Ls ad ls L) : lv_has ls L.length (mm_ll ad L) := by
  refine ⟨h.1, h.2.1, fun q hq => ?_⟩
  obtain ⟨v, h1, h2⟩ := mm_ll_of hq
  rw [h2]
  exact (h.2.2 _ _ h1).2
/-- behind a store -/
theorem mm_Ls.put {ad : Nat → Nat} {ls ls' : Array Slot} {L : mm_Loc} {k : Nat} {v : Value} (h : mm_Ls ad ls L) (hv : mm_c1 v = true) (hk : k < L.length)
    (h' : lv_has ls' L.length ((k, mm_V ad v) :: (mm_ll ad L).filter (fun q => !(q.1 == k) && !(q.1 + 1 == k && q.2.category == 2)))) : mm_Ls ad ls' (L.set k (some v)) := by
  refine ⟨by rw [List.length_set]; exact h'.1, h'.2.1, fun i w hw => ?_⟩
  by_cases hi : i = k
  · subst hi
    rw [List.getElem?_set_self hk] at hw
    cases hw
    exact ⟨hv, h'.2.2 _ List.mem_cons_self⟩
  · rw [List.getElem?_set_ne (fun q => hi q.symm)] at hw
    obtain ⟨h1, -⟩ := h.2.2 i w hw
    refine ⟨h1, h'.2.2 (i, mm_V ad w) (List.mem_cons_of_mem _ (List.mem_filter.mpr ⟨mm_ll_in hw, ?_⟩))⟩
    have h2 : (mm_V ad w).category = 1 := mm_c1V h1
    simp [hi, h2]
theorem mm_Ls.drop {ad : Nat → Nat} {ls : Array Slot} {L : mm_Loc} {k : Nat} {o : Option Value} (h : mm_Ls ad ls (L.set k o)) : mm_Ls ad ls (L.set k none) := by
  refine ⟨by rw [List.length_set]; rw [← List.length_set (i := k) (a := o)]; exact h.1, h.2.1, fun i w hw => ?_⟩
  by_cases hi : i = k
  · subst hi
    rw [List.getElem?_set] at hw
    simp at hw
  · rw [List.getElem?_set_ne (fun q => hi q.symm)] at hw
    exact h.2.2 i w (by rw [List.getElem?_set_ne (fun q => hi q.symm)]; exact hw)
theorem mm_ld_s {L L' : mm_Loc} {k : Nat} {t : Bool} {S S' : List Value} (h : mm_ld L k t S = some (L', S')) : L' = L ∧ ∃ v, L[k]? = some (some v) ∧ S' = v :: S ∧ ((t = true ∧ ∃ x, v = .int x) ∨ (t = false ∧ ∃ x, v = .ref x)) := by
  unfold mm_ld at h
  split at h
  · rename_i x h1; cases h; exact ⟨rfl, _, h1, rfl, Or.inl ⟨rfl, x, rfl⟩⟩
  · rename_i x h1; cases h; exact ⟨rfl, _, h1, rfl, Or.inr ⟨rfl, x, rfl⟩⟩
  · cases h
theorem mm_cond {α : Type} {c : Bool} {x y : α} (h : cond c (some x) none = some y) : c = true ∧ x = y := by
  cases c with
  | true => exact ⟨rfl, Option.some.inj h⟩
  | false => cases h
theorem mm_condP {c : Bool} {P : Prop} (h : cond c P False) : c = true ∧ P := by
  cases c with
  | true => exact ⟨rfl, h⟩
  | false => exact h.elim
theorem mm_st_s {L L' : mm_Loc} {k : Nat} {t : Bool} {S S' : List Value} (h : mm_st L k t S = some (L', S')) : k < L.length ∧ ∃ v, S = v :: S' ∧ L' = L.set k (some v) ∧ ((t = true ∧ ∃ x, v = .int x) ∨ (t = false ∧ ∃ x, v = .ref x)) := by
  unfold mm_st at h
  split at h
  · obtain ⟨h1, h2⟩ := mm_cond h
    cases h2
    exact ⟨by simpa using h1, _, rfl, rfl, Or.inl ⟨rfl, _, rfl⟩⟩
  · obtain ⟨h1, h2⟩ := mm_cond h
    cases h2
    exact ⟨by simpa using h1, _, rfl, rfl, Or.inr ⟨rfl, _, rfl⟩⟩
  · cases h
section MMA
variable {p : Program} {l : Launch} {e : Env} {R : Room} {s : State} {m : MethodId} {args : Array Value} {below : List Frame} {meth : Method} {c : Code} {H : Heap} {locs : List Loc} {cells slots : Nat} {Q : State → Prop}
variable {cc : ByteArray} {pc z : Nat} {ls : Array Slot} {ad : Nat → Nat} {i : Instr} {S S' : List Value} {L L' : mm_Loc}
set_option maxHeartbeats 4000000 in
theorem mm_alu_ok (hx : p.tables.exec = Jvm.exec) (hb : c.code = cc) (ha : mm_alu i S = some S') (hd : decode cc pc = .ok (i, z)) (hz : mm_len i z = true)
    (k : W p l e R s m args below meth c H locs cells slots Q (F0 m (pc + z) ls (S'.map (mm_V ad)))) : W p l e R s m args below meth c H locs cells slots Q (F0 m pc ls (S.map (mm_V ad))) := by
  unfold mm_alu at ha
  split at ha
  · cases ha; cases mm_z hz; exact lv_iconst hx hb hd rfl k
  · cases ha; cases mm_z hz; exact lv_bipush hx hb hd rfl k
  · cases ha; cases mm_z hz; exact lv_sipush hx hb hd rfl k
  · cases ha; cases mm_z hz; exact lv_lconst hx hb hd rfl k
  · obtain ⟨x, y, r, rfl, rfl⟩ := mm_2s ha; cases mm_z hz; exact lv_iadd hx hb hd k
  · obtain ⟨x, y, r, rfl, rfl⟩ := mm_2s ha; cases mm_z hz; exact lv_isub hx hb hd k
  · obtain ⟨x, y, r, rfl, rfl⟩ := mm_2s ha; cases mm_z hz; exact lv_imul hx hb hd k
  · obtain ⟨x, y, r, rfl, rfl⟩ := mm_2s ha; cases mm_z hz; exact lv_iand hx hb hd k
  · obtain ⟨x, y, r, rfl, rfl⟩ := mm_2s ha; cases mm_z hz; exact lv_ior hx hb hd k
  · obtain ⟨x, y, r, rfl, rfl⟩ := mm_2s ha; cases mm_z hz; exact lv_ixor hx hb hd k
  · obtain ⟨x, y, r, rfl, rfl⟩ := mm_2s ha; cases mm_z hz; exact lv_ishl hx hb hd k
  · obtain ⟨x, y, r, rfl, rfl⟩ := mm_2s ha; cases mm_z hz; exact lv_ishr hx hb hd k
  · obtain ⟨x, y, r, rfl, rfl⟩ := mm_2s ha; cases mm_z hz; exact lv_iushr hx hb hd rfl k
  · obtain ⟨x, r, rfl, rfl⟩ := mm_1s ha; cases mm_z hz; exact lv_ineg hx hb hd k
  · unfold mm_i2l at ha
    split at ha
    · cases ha; cases mm_z hz; exact lv_i2l hx hb hd rfl k
    · cases ha
  · unfold mm_lcmp at ha
    split at ha
    · cases ha; cases mm_z hz; exact W.lcmp hx hb hd k
    · cases ha
  · unfold mm_dup at ha
    split at ha
    · obtain ⟨h1, rfl⟩ := mm_cond ha; cases mm_z hz; exact lv_dup hx hb hd (mm_c1V h1) k
    · cases ha
  · unfold mm_pop at ha
    split at ha
    · obtain ⟨h1, rfl⟩ := mm_cond ha; cases mm_z hz; exact lv_pop hx hb hd (mm_c1V h1) k
    · cases ha
  · unfold mm_dup_x1 at ha
    split at ha
    · obtain ⟨h1, rfl⟩ := mm_cond ha; cases mm_z hz
      simp only [Bool.and_eq_true] at h1
      exact lv_dup_x1 hx hb hd (mm_c1V h1.1) (mm_c1V h1.2) k
    · cases ha
  · unfold mm_dup_x2 at ha
    split at ha
    · obtain ⟨h1, rfl⟩ := mm_cond ha; cases mm_z hz
      simp only [Bool.and_eq_true] at h1
      exact lv_dup_x2 hx hb hd (mm_c1V h1.1.1) (mm_c1V h1.1.2) (mm_c1V h1.2) k
    · cases ha
  · unfold mm_dup2 at ha
    split at ha
    · obtain ⟨h1, rfl⟩ := mm_cond ha; cases mm_z hz
      simp only [Bool.and_eq_true] at h1
      exact lv_dup2_11 hx hb hd (mm_c1V h1.1) (mm_c1V h1.2) k
    · cases ha
  · cases ha
theorem mm_ldI (hx : p.tables.exec = Jvm.exec) (hb : c.code = cc) {j : Nat} (hl : mm_Ls ad ls L) (h : mm_ld L j true S = some (L', S')) (hd : (decode cc pc = .ok (.iload j, 2) ∧ z = 2) ∨ ∃ k : Fin 4, (k : Nat) = j ∧ decode cc pc = .ok (.iload_n k, 1) ∧ z = 1)
    (k : ∀ ls', mm_Ls ad ls' L' → W p l e R s m args below meth c H locs cells slots Q (F0 m (pc + z) ls' (S'.map (mm_V ad)))) : W p l e R s m args below meth c H locs cells slots Q (F0 m pc ls (S.map (mm_V ad))) := by
  obtain ⟨rfl, v, h1, rfl, ⟨-, x, rfl⟩ | ⟨h2, -⟩⟩ := mm_ld_s h
  · have h3 := (hl.2.2 _ _ h1).2
    rcases hd with ⟨hd, rfl⟩ | ⟨k4, hk, hd, rfl⟩
    · exact lv_iload hx hb hd h3 (k ls hl)
    · exact lv_iload_n hx hb hd hk h3 (k ls hl)
  · cases h2
theorem mm_ldA (hx : p.tables.exec = Jvm.exec) (hb : c.code = cc) {j : Nat} (hl : mm_Ls ad ls L) (h : mm_ld L j false S = some (L', S')) (hd : (decode cc pc = .ok (.aload j, 2) ∧ z = 2) ∨ ∃ k : Fin 4, (k : Nat) = j ∧ decode cc pc = .ok (.aload_n k, 1) ∧ z = 1)
    (k : ∀ ls', mm_Ls ad ls' L' → W p l e R s m args below meth c H locs cells slots Q (F0 m (pc + z) ls' (S'.map (mm_V ad)))) : W p l e R s m args below meth c H locs cells slots Q (F0 m pc ls (S.map (mm_V ad))) := by
  obtain ⟨rfl, v, h1, rfl, ⟨h2, -⟩ | ⟨-, x, rfl⟩⟩ := mm_ld_s h
  · cases h2
  · have h3 := (hl.2.2 _ _ h1).2
    rcases hd with ⟨hd, rfl⟩ | ⟨k4, hk, hd, rfl⟩
    · exact lv_aload hx hb hd h3 (k ls hl)
    · exact lv_aload_n hx hb hd hk h3 (k ls hl)
theorem mm_stI (hx : p.tables.exec = Jvm.exec) (hb : c.code = cc) {j : Nat} (hl : mm_Ls ad ls L) (h : mm_st L j true S = some (L', S')) (hd : (decode cc pc = .ok (.istore j, 2) ∧ z = 2) ∨ ∃ k : Fin 4, (k : Nat) = j ∧ decode cc pc = .ok (.istore_n k, 1) ∧ z = 1)
    (k : ∀ ls', mm_Ls ad ls' L' → W p l e R s m args below meth c H locs cells slots Q (F0 m (pc + z) ls' (S'.map (mm_V ad)))) : W p l e R s m args below meth c H locs cells slots Q (F0 m pc ls (S.map (mm_V ad))) := by
  obtain ⟨hj, v, rfl, rfl, ⟨-, x, rfl⟩ | ⟨h2, -⟩⟩ := mm_st_s h
  · rcases hd with ⟨hd, rfl⟩ | ⟨k4, hk, hd, rfl⟩
    · exact lv_istore hx hb hd hl.has hj rfl (fun ls' h' => k ls' (hl.put (v := .int x) rfl hj h'))
    · exact lv_istore_n hx hb hd hk hl.has hj rfl (fun ls' h' => k ls' (hl.put (v := .int x) rfl hj h'))
  · cases h2
theorem mm_stA (hx : p.tables.exec = Jvm.exec) (hb : c.code = cc) {j : Nat} (hl : mm_Ls ad ls L) (h : mm_st L j false S = some (L', S')) (hd : (decode cc pc = .ok (.astore j, 2) ∧ z = 2) ∨ ∃ k : Fin 4, (k : Nat) = j ∧ decode cc pc = .ok (.astore_n k, 1) ∧ z = 1)
    (k : ∀ ls', mm_Ls ad ls' L' → W p l e R s m args below meth c H locs cells slots Q (F0 m (pc + z) ls' (S'.map (mm_V ad)))) : W p l e R s m args below meth c H locs cells slots Q (F0 m pc ls (S.map (mm_V ad))) := by
  obtain ⟨hj, v, rfl, rfl, ⟨h2, -⟩ | ⟨-, x, rfl⟩⟩ := mm_st_s h
  · cases h2
  · rcases hd with ⟨hd, rfl⟩ | ⟨k4, hk, hd, rfl⟩
    · exact lv_astore hx hb hd hl.has hj rfl (fun ls' h' => k ls' (hl.put (v := .ref x) rfl hj h'))
    · exact lv_astore_n hx hb hd hk hl.has hj rfl (fun ls' h' => k ls' (hl.put (v := .ref x) rfl hj h'))
set_option maxHeartbeats 4000000 in
theorem mm_loc_ok (hx : p.tables.exec = Jvm.exec) (hb : c.code = cc) (hl : mm_Ls ad ls L) (ha : mm_loc i L S = some (L', S')) (hd : decode cc pc = .ok (i, z)) (hz : mm_len i z = true)
    (k : ∀ ls', mm_Ls ad ls' L' → W p l e R s m args below meth c H locs cells slots Q (F0 m (pc + z) ls' (S'.map (mm_V ad)))) : W p l e R s m args below meth c H locs cells slots Q (F0 m pc ls (S.map (mm_V ad))) := by
  unfold mm_loc at ha
  split at ha
  · cases mm_z hz; exact mm_ldI hx hb hl ha (Or.inl ⟨hd, rfl⟩) k
  · cases mm_z hz; exact mm_ldI hx hb hl ha (Or.inr ⟨_, rfl, hd, rfl⟩) k
  · cases mm_z hz; exact mm_ldA hx hb hl ha (Or.inl ⟨hd, rfl⟩) k
  · cases mm_z hz; exact mm_ldA hx hb hl ha (Or.inr ⟨_, rfl, hd, rfl⟩) k
  · cases mm_z hz; exact mm_stI hx hb hl ha (Or.inl ⟨hd, rfl⟩) k
  · cases mm_z hz; exact mm_stI hx hb hl ha (Or.inr ⟨_, rfl, hd, rfl⟩) k
  · cases mm_z hz; exact mm_stA hx hb hl ha (Or.inl ⟨hd, rfl⟩) k
  · cases mm_z hz; exact mm_stA hx hb hl ha (Or.inr ⟨_, rfl, hd, rfl⟩) k
  · cases mm_z hz
    unfold mm_inc at ha
    split at ha
    · rename_i x hx2
      cases ha
      have hk := (hl.2.2 _ _ hx2).2
      have hlt : _ < L.length := (List.getElem?_eq_some_iff.mp hx2).1
      obtain ⟨kk, hkk⟩ := List.getElem?_of_mem (mm_ll_in (ad := ad) hx2)
      exact lv_iinc hx hb hd hl.has hkk rfl hlt rfl (fun ls' h' => k ls' (hl.put (v := .int _) rfl hlt h'))
    · cases ha
  · cases ha
end MMA
