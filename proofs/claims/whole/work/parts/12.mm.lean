/-! ===== the small machine's heap in the machine's ===== -/
def mm_fv (ad : Nat → Nat) (row : Nat → Int32) (j : Nat) (o : Option Nat) : Value := match o with
  | some r => Value.ref (ad r)
  | none => Value.int (row j)
def mm_fs (ad : Nat → Nat) (row : Nat → Int32) (fs : List (Option Nat)) : List Value := fs.zipIdx.map (fun q => mm_fv ad row q.2 q.1)
def mm_cell (ad : Nat → Nat) (cA : Nat → ClassId) (hp : mm_Hp) (k : Nat) (x : mm_Lay) : va_E := match x with
  | .inl (0, n) => .inl (cA 0, n, .inl (hp.1 k))
  | .inl (1, n) => .inl (cA 1, n, .inl (hp.1 k))
  | .inl (_, n) => .inl (cA 2, n, .inr (.inl (hp.2 k)))
  | .inr (ci, fs) => .inr (ci, mm_fs ad (hp.1 k) fs)
def mm_ws (ad : Nat → Nat) (cA : Nat → ClassId) (lay : List mm_Lay) (hp : mm_Hp) : va_W := lay.zipIdx.map (fun q => (ad q.2, mm_cell ad cA hp q.2 q.1))
theorem mm_ws_at {ad : Nat → Nat} {cA : Nat → ClassId} {lay : List mm_Lay} {hp : mm_Hp} {k : Nat} {x : mm_Lay} (h : lay[k]? = some x) : (mm_ws ad cA lay hp)[k]? = some (ad k, mm_cell ad cA hp k x) := by
  unfold mm_ws
  rw [List.getElem?_map, List.getElem?_zipIdx, h]
  simp
theorem mm_ws_none {ad : Nat → Nat} {cA : Nat → ClassId} {lay : List mm_Lay} {hp : mm_Hp} {k : Nat} (h : lay[k]? = none) : (mm_ws ad cA lay hp)[k]? = none := by
  unfold mm_ws
  rw [List.getElem?_map, List.getElem?_zipIdx, h]
  rfl
theorem mm_cell_eq {ad : Nat → Nat} {cA : Nat → ClassId} {hp hp' : mm_Hp} {k : Nat} (x : mm_Lay) (h1 : hp'.1 k = hp.1 k) (h2 : hp'.2 k = hp.2 k) : mm_cell ad cA hp' k x = mm_cell ad cA hp k x := by
  unfold mm_cell
  split <;> simp only [h1, h2]
theorem mm_ws_set {ad : Nat → Nat} {cA : Nat → ClassId} {lay : List mm_Lay} {hp hp' : mm_Hp} {k : Nat} {x : mm_Lay} (h : lay[k]? = some x) (ho : ∀ j, j ≠ k → hp'.1 j = hp.1 j ∧ hp'.2 j = hp.2 j) :
    (mm_ws ad cA lay hp).set k (ad k, mm_cell ad cA hp' k x) = mm_ws ad cA lay hp' := by
  refine List.ext_getElem? fun j => ?_
  by_cases hj : j = k
  · subst hj
    rw [mm_ws_at h, List.getElem?_set_self]
    exact (List.getElem?_eq_some_iff.mp (mm_ws_at (ad := ad) (cA := cA) (hp := hp) h)).1
  · rw [List.getElem?_set_ne (fun q => hj q.symm)]
    cases hl : lay[j]? with
    | none => rw [mm_ws_none hl, mm_ws_none hl]
    | some y => rw [mm_ws_at hl, mm_ws_at hl, mm_cell_eq y (ho j hj).1 (ho j hj).2]
theorem mm_up_s {f : Nat → Nat → Int32} {k j : Nat} {x : Int32} : mm_up f k j x k = upd (f k) j x := by
  simp [mm_up]
theorem mm_up_n {f : Nat → Nat → Int32} {k j a : Nat} {x : Int32} (h : a ≠ k) : mm_up f k j x a = f a := by
  have h1 : Nat.beq a k = false := by
    cases hb : Nat.beq a k with
    | false => rfl
    | true => exact absurd (Nat.eq_of_beq_eq_true hb) h
  simp [mm_up, h1]
theorem mm_upL_s {f : Nat → Nat → Int64} {k j : Nat} {x : Int64} : mm_upL f k j x k = vp_updL (f k) j x := by
  simp [mm_upL]
theorem mm_upL_n {f : Nat → Nat → Int64} {k j a : Nat} {x : Int64} (h : a ≠ k) : mm_upL f k j x a = f a := by
  have h1 : Nat.beq a k = false := by
    cases hb : Nat.beq a k with
    | false => rfl
    | true => exact absurd (Nat.eq_of_beq_eq_true hb) h
  simp [mm_upL, h1]
theorem mm_fs_at {ad : Nat → Nat} {row : Nat → Int32} {fs : List (Option Nat)} {j : Nat} {o : Option Nat} (h : fs[j]? = some o) : (mm_fs ad row fs)[j]? = some (mm_fv ad row j o) := by
  unfold mm_fs
  rw [List.getElem?_map, List.getElem?_zipIdx, h]
  simp
theorem mm_fs_none {ad : Nat → Nat} {row : Nat → Int32} {fs : List (Option Nat)} {j : Nat} (h : fs[j]? = none) : (mm_fs ad row fs)[j]? = none := by
  unfold mm_fs
  rw [List.getElem?_map, List.getElem?_zipIdx, h]
  rfl
theorem mm_fs_set {ad : Nat → Nat} {row : Nat → Int32} {fs : List (Option Nat)} {j : Nat} {x : Int32} (h : fs[j]? = some none) : (mm_fs ad row fs).set j (.int x) = mm_fs ad (upd row j x) fs := by
  refine List.ext_getElem? fun i => ?_
  by_cases hi : i = j
  · subst hi
    rw [mm_fs_at h, List.getElem?_set_self (List.getElem?_eq_some_iff.mp (mm_fs_at (ad := ad) (row := row) h)).1]
    simp [upd, mm_fv]
  · rw [List.getElem?_set_ne (fun q => hi q.symm)]
    cases hl : fs[i]? with
    | none => rw [mm_fs_none hl, mm_fs_none hl]
    | some o => rw [mm_fs_at hl, mm_fs_at hl]; cases o <;> simp [upd, hi, mm_fv]
/-- the world: the cells hold hp, nothing outside A has changed since H0 -/
def mm_Wd (D : va_G) (cl : List vw_C) (ad : Nat → Nat) (cA : Nat → ClassId) (lay : List mm_Lay) (A : Nat → Prop) (H0 : Heap) (hp : mm_Hp) (H : Heap) (locs : List Loc) : Prop :=
  va_P D cl (mm_ws ad cA lay hp) H ∧ va_D A (mm_ws ad cA lay hp) ∧ va_S A H0 H locs
abbrev mm_tys (cA : Nat → ClassId) : List (ClassId × FieldType) := [(cA 0, .int), (cA 1, .boolean), (cA 2, .long)]
def mm_fldOk (own : String) (cl : List vw_C) (Ts : List Jvm.Cond) (fld : Nat → Option (Nat × Nat)) : Prop := ∀ (k ci j : Nat), fld k = some (ci, j) → ∃ (C : String) (T : u_T) (N : Nat), cl[ci]? = some (C, T, N) ∧ j < N ∧ (∀ w ∈ u_ws C T N, w ∈ Ts) ∧ Jvm.Cond.fieldLink own k (T j).1 (T j).2.1 (T j).2.2.1 ∈ Ts
def mm_pflOk (own : String) (cl : List vw_C) (Ts : List Jvm.Cond) (fld : Nat → Option (Nat × Nat)) : Prop := ∀ (k ci j : Nat), fld k = some (ci, j) → ∃ (C : String) (T : u_T) (N : Nat), cl[ci]? = some (C, T, N) ∧ j < N ∧ (∀ w ∈ u_ws C T N, w ∈ Ts) ∧ Jvm.Cond.fieldLink own k (T j).1 (T j).2.1 (T j).2.2.1 ∈ Ts ∧
  (T j).2.2.2 = false ∧ (T j).2.2.1 = "I" ∧ (∃ ty : Nat → FieldType, ∀ a, a < N → parseFieldDescriptor (T a).2.2.1 = some (ty a)) ∧ ∀ a, a < N → ∀ b, b < N → a ≠ b → (T a).2.1 ≠ (T b).2.1
section MMB
variable {p : Program} {l : Launch} {e : Env} {R : Room} {s : State} {m : MethodId} {args : Array Value} {below : List Frame} {meth : Method} {c : Code} {H : Heap} {locs : List Loc} {cells slots : Nat} {Q : State → Prop}
variable {cc : ByteArray} {pc z : Nat} {ls : Array Slot} {ad : Nat → Nat} {S : List Value} {D : va_G} {cl : List vw_C} {cA : Nat → ClassId} {lay : List mm_Lay} {A : Nat → Prop} {H0 : Heap} {hp : mm_Hp} {own : String} {Ts : List Jvm.Cond} {fld : Nat → Option (Nat × Nat)}
theorem mm_get_ok (hx : p.tables.exec = Jvm.exec) (hb : c.code = cc) (hts : ∀ w ∈ Ts, w.before args s = true) (hown : s.vm.findClass own = some m.cls) (hK : va_K D cl (mm_tys cA) s) (hf : mm_fldOk own cl Ts fld) (hw : mm_Wd D cl ad cA lay A H0 hp H locs) {k : Nat} {go : List Value → Prop}
    (h : mm_get lay hp (fld k) S go) (hd : decode cc pc = .ok (.getfield k, 3)) (kk : ∀ S', go S' → W p l e R s m args below meth c H locs cells slots Q (F0 m (pc + 3) ls (S'.map (mm_V ad)))) :
    W p l e R s m args below meth c H locs cells slots Q (F0 m pc ls (S.map (mm_V ad))) := by
  generalize hcj : fld k = cj at h
  unfold mm_get at h
  split at h
  · rename_i ci j q r
    split at h
    · rename_i ci' fs hl
      have hq9 := mm_condP h
      clear h
      obtain ⟨h1, h⟩ := hq9
      cases Nat.eq_of_beq_eq_true h1
      obtain ⟨C, T, N, hc, hj, hin, hlink⟩ := hf k ci j hcj
      have he : (mm_ws ad cA lay hp)[q]? = some (ad q, .inr (ci, mm_fs ad (hp.1 q) fs)) := mm_ws_at hl
      split at h
      · rename_i y hfj
        exact va_get (D := D) (ci := ci) (C := C) (T := T) (N := N) hx hb hts hin hown hK hw.1 q he hc j hj (hts _ hlink) (fun _ h9 => h9) (mm_fs_at hfj) hd (kk _ h)
      · rename_i hfj
        exact va_get (D := D) (ci := ci) (C := C) (T := T) (N := N) hx hb hts hin hown hK hw.1 q he hc j hj (hts _ hlink) (fun _ h9 => h9) (mm_fs_at hfj) hd (kk _ h)
      · exact h.elim
    · exact h.elim
  · exact h.elim
theorem mm_put_ok (hx : p.tables.exec = Jvm.exec) (hb : c.code = cc) (hts : ∀ w ∈ Ts, w.before args s = true) (hown : s.vm.findClass own = some m.cls) (hK : va_K D cl (mm_tys cA) s) (hf : mm_pflOk own cl Ts fld) (hw : mm_Wd D cl ad cA lay A H0 hp H locs) {k : Nat} {go : List Value → mm_Hp → Prop}
    (h : mm_put lay hp (fld k) S go) (hd : decode cc pc = .ok (.putfield k, 3)) (kk : ∀ S' hp' H' locs', go S' hp' → mm_Wd D cl ad cA lay A H0 hp' H' locs' → W p l e R s m args below meth c H' locs' cells slots Q (F0 m (pc + 3) ls (S'.map (mm_V ad)))) :
    W p l e R s m args below meth c H locs cells slots Q (F0 m pc ls (S.map (mm_V ad))) := by
  generalize hcj : fld k = cj at h
  unfold mm_put at h
  split at h
  · rename_i ci j x q r
    split at h
    · rename_i ci' fs hl
      have hq9 := mm_condP h
      clear h
      obtain ⟨h1, h⟩ := hq9
      cases Nat.eq_of_beq_eq_true h1
      obtain ⟨C, T, N, hc, hj, hin, hlink, hfin, hI, ⟨ty0, hty⟩, hnm⟩ := hf k ci j hcj
      have he : (mm_ws ad cA lay hp)[q]? = some (ad q, .inr (ci, mm_fs ad (hp.1 q) fs)) := mm_ws_at hl
      split at h
      · rename_i hfj
        refine va_put (D := D) (ci := ci) (C := C) (T := T) (N := N) (ty := .int) (v := .int x) hx hb hts hin ty0 hty hnm hown hK hw.1 hw.2.1 hw.2.2 q he hc j hj (hts _ hlink) (fun _ h9 => h9) hfin (by rw [hI]; decide +kernel) rfl rfl (List.getElem?_eq_some_iff.mp (mm_fs_at (ad := ad) (row := hp.1 q) hfj)).1 hd (fun H1 locs1 hP1 hD1 hS1 => ?_)
        have hset : (mm_ws ad cA lay hp).set q (ad q, .inr (ci, (mm_fs ad (hp.1 q) fs).set j (.int x))) = mm_ws ad cA lay (mm_up hp.1 q j x, hp.2) := by
          rw [mm_fs_set hfj]
          have h2 := mm_ws_set (ad := ad) (cA := cA) (hp := hp) (hp' := (mm_up hp.1 q j x, hp.2)) hl (fun a ha => ⟨mm_up_n ha, rfl⟩)
          rw [← h2]
          show _ = (mm_ws ad cA lay hp).set q (ad q, .inr (ci, mm_fs ad (mm_up hp.1 q j x q) fs))
          rw [mm_up_s]
        rw [hset] at hP1 hD1
        exact kk _ _ _ _ h ⟨hP1, hD1, hS1⟩
      · exact h.elim
    · exact h.elim
  · exact h.elim
theorem mm_set0 {k n j : Nat} {x : Int32} (hl : lay[k]? = some (.inl (0, n))) : (mm_ws ad cA lay hp).set k (ad k, .inl (cA 0, n, .inl (upd (hp.1 k) j x))) = mm_ws ad cA lay (mm_up hp.1 k j x, hp.2) := by
  have h2 := mm_ws_set (ad := ad) (cA := cA) (hp := hp) (hp' := (mm_up hp.1 k j x, hp.2)) hl (fun a ha => ⟨mm_up_n ha, rfl⟩)
  rw [← h2]
  show _ = (mm_ws ad cA lay hp).set k (ad k, .inl (cA 0, n, .inl (mm_up hp.1 k j x k)))
  rw [mm_up_s]
theorem mm_set1 {k n j : Nat} {x : Int32} (hl : lay[k]? = some (.inl (1, n))) : (mm_ws ad cA lay hp).set k (ad k, .inl (cA 1, n, .inl (upd (hp.1 k) j x))) = mm_ws ad cA lay (mm_up hp.1 k j x, hp.2) := by
  have h2 := mm_ws_set (ad := ad) (cA := cA) (hp := hp) (hp' := (mm_up hp.1 k j x, hp.2)) hl (fun a ha => ⟨mm_up_n ha, rfl⟩)
  rw [← h2]
  show _ = (mm_ws ad cA lay hp).set k (ad k, .inl (cA 1, n, .inl (mm_up hp.1 k j x k)))
  rw [mm_up_s]
theorem mm_set2 {k n j : Nat} {x : Int64} (hl : lay[k]? = some (.inl (2, n))) : (mm_ws ad cA lay hp).set k (ad k, .inl (cA 2, n, .inr (.inl (vp_updL (hp.2 k) j x)))) = mm_ws ad cA lay (hp.1, mm_upL hp.2 k j x) := by
  have h2 := mm_ws_set (ad := ad) (cA := cA) (hp := hp) (hp' := (hp.1, mm_upL hp.2 k j x)) hl (fun a ha => ⟨rfl, mm_upL_n ha⟩)
  rw [← h2]
  show _ = (mm_ws ad cA lay hp).set k (ad k, .inl (cA 2, n, .inr (.inl (mm_upL hp.2 k j x k))))
  rw [mm_upL_s]
/-- the script -/
def mm_scOk (ad : Nat → Nat) (A : Nat → Prop) (H0 : Heap) (s : State) (sc : Option (Nat × (Nat → Int32))) : Prop := ∀ q, sc = some q → va_X (ad 1000) q.1 q.2 s H0 ∧ ad 1000 < H0.size ∧ ¬ A (ad 1000)
theorem mm_ald_ok (hx : p.tables.exec = Jvm.exec) (hb : c.code = cc) (hK : va_K D cl (mm_tys cA) s) (hw : mm_Wd D cl ad cA lay A H0 hp H locs) {sc : Option (Nat × (Nat → Int32))} (hsc : mm_scOk ad A H0 s sc) {t : Nat} {go : List Value → Prop}
    (h : mm_ald lay sc hp t S go) (hd : (t = 0 ∧ decode cc pc = .ok (.iaload, 1)) ∨ (t = 1 ∧ decode cc pc = .ok (.baload, 1)) ∨ (t = 2 ∧ decode cc pc = .ok (.laload, 1))) (kk : ∀ S', go S' → W p l e R s m args below meth c H locs cells slots Q (F0 m (pc + 1) ls (S'.map (mm_V ad)))) :
    W p l e R s m args below meth c H locs cells slots Q (F0 m pc ls (S.map (mm_V ad))) := by
  unfold mm_ald at h
  split at h
  · rename_i i k r
    split at h
    · rename_i t' n hl
      have hq9 := mm_condP h
      clear h
      obtain ⟨h1, hin, h⟩ := hq9
      cases Nat.eq_of_beq_eq_true h1
      have he := mm_ws_at (ad := ad) (cA := cA) (hp := hp) hl
      rcases hd with ⟨rfl, hd⟩ | ⟨rfl, hd⟩ | ⟨rfl, hd⟩
      · exact va_iald hx hb hK hw.1 k 0 he rfl hin hd (kk _ h)
      · exact va_zald hx hb hK hw.1 k 1 he rfl hin hd (kk _ h)
      · exact va_lald hx hb hK hw.1 k 2 he rfl hin hd (kk _ h)
    · split at h
      · have hq9 := mm_condP h
        clear h
        obtain ⟨h1, hin, h⟩ := hq9
        simp only [Bool.and_eq_true] at h1
        cases Nat.eq_of_beq_eq_true h1.1
        cases Nat.eq_of_beq_eq_true h1.2
        obtain ⟨hX, hbl, hbA⟩ := hsc _ rfl
        rcases hd with ⟨-, hd⟩ | ⟨h9, -⟩ | ⟨h9, -⟩
        · exact va_sld hx hb hX hbl hbA hw.2.2 hin hd (kk _ h)
        · cases h9
        · cases h9
      · exact h.elim
    · exact h.elim
  · exact h.elim
theorem mm_alen_ok (hx : p.tables.exec = Jvm.exec) (hb : c.code = cc) (hK : va_K D cl (mm_tys cA) s) (hw : mm_Wd D cl ad cA lay A H0 hp H locs) {sc : Option (Nat × (Nat → Int32))} (hsc : mm_scOk ad A H0 s sc) {go : List Value → Prop}
    (h : mm_alen lay sc S go) (hd : decode cc pc = .ok (.arraylength, 1)) (kk : ∀ S', go S' → W p l e R s m args below meth c H locs cells slots Q (F0 m (pc + 1) ls (S'.map (mm_V ad)))) :
    W p l e R s m args below meth c H locs cells slots Q (F0 m pc ls (S.map (mm_V ad))) := by
  unfold mm_alen at h
  split at h
  · rename_i k r
    split at h
    · rename_i t n hl
      have he := mm_ws_at (ad := ad) (cA := cA) (hp := hp) hl
      match t, he with
      | 0, he => exact va_alen hx hb hK hw.1 k 0 he rfl rfl hd (kk _ h)
      | 1, he => exact va_alen hx hb hK hw.1 k 1 he rfl rfl hd (kk _ h)
      | t + 2, he => exact va_alen hx hb hK hw.1 k 2 he rfl rfl hd (kk _ h)
    · split at h
      · have hq9 := mm_condP h
        clear h
        obtain ⟨h1, h⟩ := hq9
        cases Nat.eq_of_beq_eq_true h1
        obtain ⟨hX, hbl, hbA⟩ := hsc _ rfl
        exact va_slen hx hb hX hbl hbA hw.2.2 hd (kk _ h)
      · exact h.elim
    · exact h.elim
  · exact h.elim
theorem mm_ast_ok (hx : p.tables.exec = Jvm.exec) (hb : c.code = cc) (hK : va_K D cl (mm_tys cA) s) (hw : mm_Wd D cl ad cA lay A H0 hp H locs) {t : Nat} {go : List Value → mm_Hp → Prop}
    (h : mm_ast lay hp t S go) (hd : (t = 0 ∧ decode cc pc = .ok (.iastore, 1)) ∨ (t = 1 ∧ decode cc pc = .ok (.bastore, 1)) ∨ (t = 2 ∧ decode cc pc = .ok (.lastore, 1)))
    (kk : ∀ S' hp' H' locs', go S' hp' → mm_Wd D cl ad cA lay A H0 hp' H' locs' → W p l e R s m args below meth c H' locs' cells slots Q (F0 m (pc + 1) ls (S'.map (mm_V ad)))) :
    W p l e R s m args below meth c H locs cells slots Q (F0 m pc ls (S.map (mm_V ad))) := by
  unfold mm_ast at h
  split at h
  · rename_i x i k r
    split at h
    · rename_i t' n hl
      have hq9 := mm_condP h
      clear h
      obtain ⟨h1, hin, h⟩ := hq9
      simp only [Bool.and_eq_true] at h1
      cases Nat.eq_of_beq_eq_true h1.1
      have he := mm_ws_at (ad := ad) (cA := cA) (hp := hp) hl
      rcases hd with ⟨rfl, hd⟩ | ⟨rfl, hd⟩ | ⟨rfl, hd⟩
      · refine va_iast hx hb hK hw.1 hw.2.1 hw.2.2 k 0 he rfl hin hd (fun H1 locs1 hP1 hD1 hS1 => ?_)
        rw [mm_set0 hl] at hP1 hD1
        exact kk _ _ _ _ h ⟨hP1, hD1, hS1⟩
      · refine va_zast hx hb hK hw.1 hw.2.1 hw.2.2 k 1 he rfl hin hd (fun H1 locs1 hP1 hD1 hS1 => ?_)
        rw [mm_set1 hl] at hP1 hD1
        exact kk _ _ _ _ h ⟨hP1, hD1, hS1⟩
      · exact absurd h1.2 (by decide)
    · exact h.elim
  · rename_i x i k r
    split at h
    · rename_i t' n hl
      have hq9 := mm_condP h
      clear h
      obtain ⟨h1, hin, h⟩ := hq9
      simp only [Bool.and_eq_true] at h1
      cases Nat.eq_of_beq_eq_true h1.1
      have he := mm_ws_at (ad := ad) (cA := cA) (hp := hp) hl
      rcases hd with ⟨rfl, hd⟩ | ⟨rfl, hd⟩ | ⟨rfl, hd⟩
      · exact absurd h1.2 (by decide)
      · exact absurd h1.2 (by decide)
      · refine va_last hx hb hK hw.1 hw.2.1 hw.2.2 k 2 he rfl hin hd (fun H1 locs1 hP1 hD1 hS1 => ?_)
        rw [mm_set2 hl] at hP1 hD1
        exact kk _ _ _ _ h ⟨hP1, hD1, hS1⟩
    · exact h.elim
  · exact h.elim
end MMB
