/-! ===== the constructors (by wip/whole/gen9B.py) ===== -/
section NWA
variable {p : Program} {l : Launch} {e : Env} {R : Room} {s : State} {m : MethodId} {args : Array Value} {below : List Frame} {meth : Method} {c : Code} {H : Heap} {locs : List Loc} {cells slots : Nat} {Q : State → Prop} {cc : ByteArray} {pc : Nat} {ls : Array Slot} {rest : List Value} {D : va_G} {cl : List vw_C} {ws : va_W} {A : Nat → Prop} {H0 : Heap}
/-- a new array: its class is the known one -/
theorem nwA {atype : ArrayType} {ty : FieldType} {cA : Nat → ClassId} {t : Nat} (ht : (mm_tys cA)[t]? = some (cA t, ty)) (hRA : ∀ x, va_RA s x ty → s.vm.findClass ("[" ++ ty.toString) = some x) (hexec : p.tables.exec = Jvm.exec) (hb : c.code = cc) (harr : (Cond.arrayClass (newarray.typeOf atype)).before args s = true) (hty : newarray.typeOf atype = ty) (hK : va_K D cl (mm_tys cA) s) (hP : va_P D cl ws H) (hD : va_D A ws) (hS : va_S A H0 H locs) (hA : ∀ q, H0.size ≤ q → A q)
    {n : Int32} {N' : Nat} {a0 : vp_A} (ha : ∀ cA : ClassId, vp_cell cA a0 = arrV cA N' (fun _ => defaultValue ty)) (hn : ¬ n < 0) (hN : n.toNatClampNeg = N') (hbytes : N' * componentBytes ty ≤ 536870912) (hcells : cells + 1 ≤ R.cells) (hslots : slots + N' ≤ R.slots) (hdg : decode cc pc = .ok (.newarray atype, 2))
    (kk : ∀ (q : Nat) (H1 : Heap), va_P D cl (ws ++ [(q, .inl (cA t, a0))]) H1 → va_D A (ws ++ [(q, .inl (cA t, a0))]) → va_S A H0 H1 locs →
      W p l e R s m args below meth c H1 locs (cells + 1) (slots + N') Q (F0 m (pc + 2) ls (.ref q :: rest))) : W p l e R s m args below meth c H locs cells slots Q (F0 m pc ls (.int n :: rest)) := by
  refine va_newa hexec hb harr hty hK hP hD hS hA ha hn hN hbytes hcells hslots hdg (fun q x H1 hK1 hP1 hD1 hS1 => ?_)
  have h1 := hRA _ (hK.2 t _ ht).2
  have h2 := hRA _ (hK1.2 3 (x, ty) rfl).2
  have h3 : x = cA t := Option.some.inj (h2.symm.trans h1)
  subst h3
  exact kk q H1 hP1 hD1 hS1
end NWA
theorem wOI : Jvm.Cond.code objectInit ⟨#[0xb1]⟩ 1 none ∈ tbl := tb 60 (by decide +kernel) (by decide +kernel)
theorem wOM : Jvm.Cond.instanceMethod objectInit ∈ tbl := tb 59 (by decide +kernel) (by decide +kernel)
theorem t_int {cA : Nat → ClassId} : (mm_tys cA)[0]? = some (cA 0, FieldType.int) := rfl
theorem t_boolean {cA : Nat → ClassId} : (mm_tys cA)[1]? = some (cA 1, FieldType.boolean) := rfl
theorem t_long {cA : Nat → ClassId} : (mm_tys cA)[2]? = some (cA 2, FieldType.long) := rfl
theorem b_int {s : State} : ∀ x, va_RA s x .int → s.vm.findClass ("[" ++ FieldType.int.toString) = some x := fun _ h => h
theorem b_boolean {s : State} : ∀ x, va_RA s x .boolean → s.vm.findClass ("[" ++ FieldType.boolean.toString) = some x := fun _ h => h
theorem b_long {s : State} : ∀ x, va_RA s x .long → s.vm.findClass ("[" ++ FieldType.long.toString) = some x := fun _ h => h
theorem dIC_0 : decode cC_init 0 = .ok (.aload_n 0, 1) := by decide +kernel
theorem dIC_1 : decode cC_init 1 = .ok (.invokespecial 3, 3) := by decide +kernel
theorem dIC_4 : decode cC_init 4 = .ok (.aload_n 0, 1) := by decide +kernel
theorem dIC_5 : decode cC_init 5 = .ok (.bipush 80, 2) := by decide +kernel
theorem dIC_7 : decode cC_init 7 = .ok (.newarray .int, 2) := by decide +kernel
theorem dIC_9 : decode cC_init 9 = .ok (.putfield 9, 3) := by decide +kernel
theorem dIC_12 : decode cC_init 12 = .ok (.aload_n 0, 1) := by decide +kernel
theorem dIC_13 : decode cC_init 13 = .ok (.bipush 80, 2) := by decide +kernel
theorem dIC_15 : decode cC_init 15 = .ok (.newarray .int, 2) := by decide +kernel
theorem dIC_17 : decode cC_init 17 = .ok (.putfield 15, 3) := by decide +kernel
theorem dIC_20 : decode cC_init 20 = .ok (.aload_n 0, 1) := by decide +kernel
theorem dIC_21 : decode cC_init 21 = .ok (.bipush 80, 2) := by decide +kernel
theorem dIC_23 : decode cC_init 23 = .ok (.newarray .int, 2) := by decide +kernel
theorem dIC_25 : decode cC_init 25 = .ok (.putfield 18, 3) := by decide +kernel
theorem dIC_28 : decode cC_init 28 = .ok (.aload_n 0, 1) := by decide +kernel
theorem dIC_29 : decode cC_init 29 = .ok (.bipush 80, 2) := by decide +kernel
theorem dIC_31 : decode cC_init 31 = .ok (.newarray .int, 2) := by decide +kernel
theorem dIC_33 : decode cC_init 33 = .ok (.putfield 21, 3) := by decide +kernel
theorem dIC_36 : decode cC_init 36 = .ok (.aload_n 0, 1) := by decide +kernel
theorem dIC_37 : decode cC_init 37 = .ok (.bipush 80, 2) := by decide +kernel
theorem dIC_39 : decode cC_init 39 = .ok (.newarray .int, 2) := by decide +kernel
theorem dIC_41 : decode cC_init 41 = .ok (.putfield 24, 3) := by decide +kernel
theorem dIC_44 : decode cC_init 44 = .ok (.aload_n 0, 1) := by decide +kernel
theorem dIC_45 : decode cC_init 45 = .ok (.bipush 80, 2) := by decide +kernel
theorem dIC_47 : decode cC_init 47 = .ok (.newarray .int, 2) := by decide +kernel
theorem dIC_49 : decode cC_init 49 = .ok (.putfield 27, 3) := by decide +kernel
theorem dIC_52 : decode cC_init 52 = .ok (.aload_n 0, 1) := by decide +kernel
theorem dIC_53 : decode cC_init 53 = .ok (.bipush 80, 2) := by decide +kernel
theorem dIC_55 : decode cC_init 55 = .ok (.newarray .boolean, 2) := by decide +kernel
theorem dIC_57 : decode cC_init 57 = .ok (.putfield 30, 3) := by decide +kernel
theorem dIC_60 : decode cC_init 60 = .ok (.aload_n 0, 1) := by decide +kernel
theorem dIC_61 : decode cC_init 61 = .ok (.iconst 0, 1) := by decide +kernel
theorem dIC_62 : decode cC_init 62 = .ok (.putfield 34, 3) := by decide +kernel
theorem dIC_65 : decode cC_init 65 = .ok (.return_, 1) := by decide +kernel
theorem gI_C : GoodIn tbl (Jvm.Cond.code yC_init cC_init 1 none :: tbl) := fun w h => (List.mem_cons.mp h).elim (fun q => tbl_good w (by rw [q]; exact (tb 65 (by decide +kernel) (by decide +kernel)))) (tbl_good w)
set_option maxHeartbeats 4000000 in
set_option maxRecDepth 100000 in
theorem c_C_init (l : Launch) (D : va_G) (cA : Nat → ClassId) (h0 sz : Nat) : Met l yC_init (Jvm.Cond.code yC_init cC_init 1 none :: tbl) ({ frames := 1, cells := 7, slots := 560, locals := 33 }) (va_Pc [.ref h0] (fun U => U.heap.size = sz ∧ va_P D vwC [(h0, .inr (1, [.null, .null, .null, .null, .null, .null, .null, .int 0]))] U.heap ∧ va_K D vwC (mm_tys cA) U ∧ va_D (fun _ => True) [(h0, .inr (1, [.null, .null, .null, .null, .null, .null, .null, .int 0]))])) (va_Qv (fun _ : Unit => True) (fun _ t => ∃ a7 a15 a23 a31 a39 a47 a55 : Nat, va_P D vwC [(h0, .inr (1, [.ref a7, .ref a15, .ref a23, .ref a31, .ref a39, .ref a47, .ref a55, .int 0])), (a7, .inl (cA 0, 80, .inl (fun _ => 0))), (a15, .inl (cA 0, 80, .inl (fun _ => 0))), (a23, .inl (cA 0, 80, .inl (fun _ => 0))), (a31, .inl (cA 0, 80, .inl (fun _ => 0))), (a39, .inl (cA 0, 80, .inl (fun _ => 0))), (a47, .inl (cA 0, 80, .inl (fun _ => 0))), (a55, .inl (cA 1, 80, .inl (fun _ => 0)))] t.heap ∧ va_D (va_A [(h0, .inr (1, [.null, .null, .null, .null, .null, .null, .null, .int 0]))] sz) [(h0, .inr (1, [.ref a7, .ref a15, .ref a23, .ref a31, .ref a39, .ref a47, .ref a55, .int 0])), (a7, .inl (cA 0, 80, .inl (fun _ => 0))), (a15, .inl (cA 0, 80, .inl (fun _ => 0))), (a23, .inl (cA 0, 80, .inl (fun _ => 0))), (a31, .inl (cA 0, 80, .inl (fun _ => 0))), (a39, .inl (cA 0, 80, .inl (fun _ => 0))), (a47, .inl (cA 0, 80, .inl (fun _ => 0))), (a55, .inl (cA 1, 80, .inl (fun _ => 0)))]) (va_A [(h0, .inr (1, [.null, .null, .null, .null, .null, .null, .null, .int 0]))] sz)) 7 560 (va_A [(h0, .inr (1, [.null, .null, .null, .null, .null, .null, .null, .int 0]))] sz) := by
  refine Met.ofW (cc := cC_init) (maxL := 1) (ret := none) (by decide +kernel) rfl ?_
  intro p e s m args below meth c s₁ B hml hv
  obtain ⟨rfl, hsz, hP, hK, hD0⟩ := hv
  have hx := B.exec
  have hb := B.bytes
  have hr := B.returns
  have hts0 := atoms_spec (ws := Jvm.Cond.code yC_init cC_init 1 none :: tbl) B.pre
  have hts := fun w (h : w ∈ tbl) => hts0 w (List.mem_cons_of_mem _ h)
  have hown : s.vm.findClass "DieGraphs$Coins" = some m.cls := findClass_of_methodNamed B.named
  have hlocks := B.notSynchronized
  have hinn : meth.name = "<init>" := (name_of_methodNamed B.named B.method).1
  subst hsz
  have hD := hD0.self (sz := s.heap.size)
  generalize hAe : va_A [(h0, .inr (1, [.null, .null, .null, .null, .null, .null, .null, .int 0]))] s.heap.size = A at hD ⊢
  have hA : ∀ q : Nat, s.heap.size ≤ q → A q := fun q h => by rw [← hAe]; exact Or.inr h
  have hS : va_S A s.heap s.heap [] := va_S.rf
  have hP : va_P D vwC [(h0, .inr (1, [.null, .null, .null, .null, .null, .null, .null, .int 0]))] s.heap := hP
  have hl := lv_entry ([.ref h0]) (n := 1) (Nat.le_of_ble_eq_true rfl)
  rw [lg_entry_eq]
  generalize (lg_sl ([.ref h0]) ++ List.replicate (1 - (lg_sl ([.ref h0])).length) Slot.unset).toArray = ls at hl ⊢
  have hl : lv_has ls 1 [(0, .ref h0)] := hl
  refine lv_aload_n hx hb dIC_0 rfl (lv_at hl 0 rfl) ?_
  refine W.objInit hx hb hown (hts (.methodLink "DieGraphs$Coins" 3 objectInit) (tb 66 (by decide +kernel) (by decide +kernel))) (hts _ wOM) (hts _ wOI) rfl (by rw [hml]; exact hl.1) rfl dIC_1 (Nat.le_of_ble_eq_true rfl) (Nat.le_of_ble_eq_true rfl) ?_
  refine W.eq (g2 := F0 m 4 ls []) rfl ?_
  refine lv_aload_n hx hb dIC_4 rfl (lv_at hl 0 rfl) ?_
  refine lv_bipush (v := 80) hx hb dIC_5 (by decide +kernel) ?_
  refine nwA (atype := .int) (t := 0) (N' := 80) (a0 := (80, .inl (fun _ => 0))) t_int b_int hx hb (hts (.arrayClass .int) (tb 92 (by decide +kernel) (by decide +kernel))) rfl hK hP hD hS hA (fun _ => rfl) (by decide +kernel) (by decide +kernel) (by decide +kernel) (Nat.le_of_ble_eq_true rfl) (Nat.le_of_ble_eq_true rfl) dIC_7 (fun a7 H hP hD hS => ?_)
  have hP : va_P D vwC [(h0, .inr (1, [.null, .null, .null, .null, .null, .null, .null, .int 0])), (a7, .inl (cA 0, 80, .inl (fun _ => 0)))] H := hP
  have hD : va_D A [(h0, .inr (1, [.null, .null, .null, .null, .null, .null, .null, .int 0])), (a7, .inl (cA 0, 80, .inl (fun _ => 0)))] := hD
  refine W.widen (k := 1) (n := 80) (Nat.le_of_ble_eq_true rfl) (Nat.le_of_ble_eq_true rfl) ?_
  refine va_putF (D := D) (ci := 1) (v := .ref a7) (ty := .array .int) (C := RX1) (T := TX1) (N := 8) hx hb hts (mm_cls_ok 1 _ _ _ rfl).1 tyX1 tyX1_ok nmX1 hown hK hP hD hS 0 rfl rfl 0 (by decide +kernel) (hts (.fieldLink "DieGraphs$Coins" 9 "DieGraphs$Coins" "fronts" "[I") (tb 67 (by decide +kernel) (by decide +kernel))) (fun _ h9 => h9) rfl hinn rfl (by decide +kernel) rfl rfl (Nat.le_of_ble_eq_true rfl) dIC_9 (fun H locs hP hD hS => ?_)
  have hP : va_P D vwC [(h0, .inr (1, [.ref a7, .null, .null, .null, .null, .null, .null, .int 0])), (a7, .inl (cA 0, 80, .inl (fun _ => 0)))] H := hP
  have hD : va_D A [(h0, .inr (1, [.ref a7, .null, .null, .null, .null, .null, .null, .int 0])), (a7, .inl (cA 0, 80, .inl (fun _ => 0)))] := hD
  refine lv_aload_n hx hb dIC_12 rfl (lv_at hl 0 rfl) ?_
  refine lv_bipush (v := 80) hx hb dIC_13 (by decide +kernel) ?_
  refine nwA (atype := .int) (t := 0) (N' := 80) (a0 := (80, .inl (fun _ => 0))) t_int b_int hx hb (hts (.arrayClass .int) (tb 92 (by decide +kernel) (by decide +kernel))) rfl hK hP hD hS hA (fun _ => rfl) (by decide +kernel) (by decide +kernel) (by decide +kernel) (Nat.le_of_ble_eq_true rfl) (Nat.le_of_ble_eq_true rfl) dIC_15 (fun a15 H hP hD hS => ?_)
  have hP : va_P D vwC [(h0, .inr (1, [.ref a7, .null, .null, .null, .null, .null, .null, .int 0])), (a7, .inl (cA 0, 80, .inl (fun _ => 0))), (a15, .inl (cA 0, 80, .inl (fun _ => 0)))] H := hP
  have hD : va_D A [(h0, .inr (1, [.ref a7, .null, .null, .null, .null, .null, .null, .int 0])), (a7, .inl (cA 0, 80, .inl (fun _ => 0))), (a15, .inl (cA 0, 80, .inl (fun _ => 0)))] := hD
  refine W.widen (k := 2) (n := 160) (Nat.le_of_ble_eq_true rfl) (Nat.le_of_ble_eq_true rfl) ?_
  refine va_putF (D := D) (ci := 1) (v := .ref a15) (ty := .array .int) (C := RX1) (T := TX1) (N := 8) hx hb hts (mm_cls_ok 1 _ _ _ rfl).1 tyX1 tyX1_ok nmX1 hown hK hP hD hS 0 rfl rfl 1 (by decide +kernel) (hts (.fieldLink "DieGraphs$Coins" 15 "DieGraphs$Coins" "backs" "[I") (tb 68 (by decide +kernel) (by decide +kernel))) (fun _ h9 => h9) rfl hinn rfl (by decide +kernel) rfl rfl (Nat.le_of_ble_eq_true rfl) dIC_17 (fun H locs hP hD hS => ?_)
  have hP : va_P D vwC [(h0, .inr (1, [.ref a7, .ref a15, .null, .null, .null, .null, .null, .int 0])), (a7, .inl (cA 0, 80, .inl (fun _ => 0))), (a15, .inl (cA 0, 80, .inl (fun _ => 0)))] H := hP
  have hD : va_D A [(h0, .inr (1, [.ref a7, .ref a15, .null, .null, .null, .null, .null, .int 0])), (a7, .inl (cA 0, 80, .inl (fun _ => 0))), (a15, .inl (cA 0, 80, .inl (fun _ => 0)))] := hD
  refine lv_aload_n hx hb dIC_20 rfl (lv_at hl 0 rfl) ?_
  refine lv_bipush (v := 80) hx hb dIC_21 (by decide +kernel) ?_
  refine nwA (atype := .int) (t := 0) (N' := 80) (a0 := (80, .inl (fun _ => 0))) t_int b_int hx hb (hts (.arrayClass .int) (tb 92 (by decide +kernel) (by decide +kernel))) rfl hK hP hD hS hA (fun _ => rfl) (by decide +kernel) (by decide +kernel) (by decide +kernel) (Nat.le_of_ble_eq_true rfl) (Nat.le_of_ble_eq_true rfl) dIC_23 (fun a23 H hP hD hS => ?_)
  have hP : va_P D vwC [(h0, .inr (1, [.ref a7, .ref a15, .null, .null, .null, .null, .null, .int 0])), (a7, .inl (cA 0, 80, .inl (fun _ => 0))), (a15, .inl (cA 0, 80, .inl (fun _ => 0))), (a23, .inl (cA 0, 80, .inl (fun _ => 0)))] H := hP
  have hD : va_D A [(h0, .inr (1, [.ref a7, .ref a15, .null, .null, .null, .null, .null, .int 0])), (a7, .inl (cA 0, 80, .inl (fun _ => 0))), (a15, .inl (cA 0, 80, .inl (fun _ => 0))), (a23, .inl (cA 0, 80, .inl (fun _ => 0)))] := hD
  refine W.widen (k := 3) (n := 240) (Nat.le_of_ble_eq_true rfl) (Nat.le_of_ble_eq_true rfl) ?_
  refine va_putF (D := D) (ci := 1) (v := .ref a23) (ty := .array .int) (C := RX1) (T := TX1) (N := 8) hx hb hts (mm_cls_ok 1 _ _ _ rfl).1 tyX1 tyX1_ok nmX1 hown hK hP hD hS 0 rfl rfl 2 (by decide +kernel) (hts (.fieldLink "DieGraphs$Coins" 18 "DieGraphs$Coins" "weights" "[I") (tb 69 (by decide +kernel) (by decide +kernel))) (fun _ h9 => h9) rfl hinn rfl (by decide +kernel) rfl rfl (Nat.le_of_ble_eq_true rfl) dIC_25 (fun H locs hP hD hS => ?_)
  have hP : va_P D vwC [(h0, .inr (1, [.ref a7, .ref a15, .ref a23, .null, .null, .null, .null, .int 0])), (a7, .inl (cA 0, 80, .inl (fun _ => 0))), (a15, .inl (cA 0, 80, .inl (fun _ => 0))), (a23, .inl (cA 0, 80, .inl (fun _ => 0)))] H := hP
  have hD : va_D A [(h0, .inr (1, [.ref a7, .ref a15, .ref a23, .null, .null, .null, .null, .int 0])), (a7, .inl (cA 0, 80, .inl (fun _ => 0))), (a15, .inl (cA 0, 80, .inl (fun _ => 0))), (a23, .inl (cA 0, 80, .inl (fun _ => 0)))] := hD
  refine lv_aload_n hx hb dIC_28 rfl (lv_at hl 0 rfl) ?_
  refine lv_bipush (v := 80) hx hb dIC_29 (by decide +kernel) ?_
  refine nwA (atype := .int) (t := 0) (N' := 80) (a0 := (80, .inl (fun _ => 0))) t_int b_int hx hb (hts (.arrayClass .int) (tb 92 (by decide +kernel) (by decide +kernel))) rfl hK hP hD hS hA (fun _ => rfl) (by decide +kernel) (by decide +kernel) (by decide +kernel) (Nat.le_of_ble_eq_true rfl) (Nat.le_of_ble_eq_true rfl) dIC_31 (fun a31 H hP hD hS => ?_)
  have hP : va_P D vwC [(h0, .inr (1, [.ref a7, .ref a15, .ref a23, .null, .null, .null, .null, .int 0])), (a7, .inl (cA 0, 80, .inl (fun _ => 0))), (a15, .inl (cA 0, 80, .inl (fun _ => 0))), (a23, .inl (cA 0, 80, .inl (fun _ => 0))), (a31, .inl (cA 0, 80, .inl (fun _ => 0)))] H := hP
  have hD : va_D A [(h0, .inr (1, [.ref a7, .ref a15, .ref a23, .null, .null, .null, .null, .int 0])), (a7, .inl (cA 0, 80, .inl (fun _ => 0))), (a15, .inl (cA 0, 80, .inl (fun _ => 0))), (a23, .inl (cA 0, 80, .inl (fun _ => 0))), (a31, .inl (cA 0, 80, .inl (fun _ => 0)))] := hD
  refine W.widen (k := 4) (n := 320) (Nat.le_of_ble_eq_true rfl) (Nat.le_of_ble_eq_true rfl) ?_
  refine va_putF (D := D) (ci := 1) (v := .ref a31) (ty := .array .int) (C := RX1) (T := TX1) (N := 8) hx hb hts (mm_cls_ok 1 _ _ _ rfl).1 tyX1 tyX1_ok nmX1 hown hK hP hD hS 0 rfl rfl 3 (by decide +kernel) (hts (.fieldLink "DieGraphs$Coins" 21 "DieGraphs$Coins" "frontStages" "[I") (tb 70 (by decide +kernel) (by decide +kernel))) (fun _ h9 => h9) rfl hinn rfl (by decide +kernel) rfl rfl (Nat.le_of_ble_eq_true rfl) dIC_33 (fun H locs hP hD hS => ?_)
  have hP : va_P D vwC [(h0, .inr (1, [.ref a7, .ref a15, .ref a23, .ref a31, .null, .null, .null, .int 0])), (a7, .inl (cA 0, 80, .inl (fun _ => 0))), (a15, .inl (cA 0, 80, .inl (fun _ => 0))), (a23, .inl (cA 0, 80, .inl (fun _ => 0))), (a31, .inl (cA 0, 80, .inl (fun _ => 0)))] H := hP
  have hD : va_D A [(h0, .inr (1, [.ref a7, .ref a15, .ref a23, .ref a31, .null, .null, .null, .int 0])), (a7, .inl (cA 0, 80, .inl (fun _ => 0))), (a15, .inl (cA 0, 80, .inl (fun _ => 0))), (a23, .inl (cA 0, 80, .inl (fun _ => 0))), (a31, .inl (cA 0, 80, .inl (fun _ => 0)))] := hD
  refine lv_aload_n hx hb dIC_36 rfl (lv_at hl 0 rfl) ?_
  refine lv_bipush (v := 80) hx hb dIC_37 (by decide +kernel) ?_
  refine nwA (atype := .int) (t := 0) (N' := 80) (a0 := (80, .inl (fun _ => 0))) t_int b_int hx hb (hts (.arrayClass .int) (tb 92 (by decide +kernel) (by decide +kernel))) rfl hK hP hD hS hA (fun _ => rfl) (by decide +kernel) (by decide +kernel) (by decide +kernel) (Nat.le_of_ble_eq_true rfl) (Nat.le_of_ble_eq_true rfl) dIC_39 (fun a39 H hP hD hS => ?_)
  have hP : va_P D vwC [(h0, .inr (1, [.ref a7, .ref a15, .ref a23, .ref a31, .null, .null, .null, .int 0])), (a7, .inl (cA 0, 80, .inl (fun _ => 0))), (a15, .inl (cA 0, 80, .inl (fun _ => 0))), (a23, .inl (cA 0, 80, .inl (fun _ => 0))), (a31, .inl (cA 0, 80, .inl (fun _ => 0))), (a39, .inl (cA 0, 80, .inl (fun _ => 0)))] H := hP
  have hD : va_D A [(h0, .inr (1, [.ref a7, .ref a15, .ref a23, .ref a31, .null, .null, .null, .int 0])), (a7, .inl (cA 0, 80, .inl (fun _ => 0))), (a15, .inl (cA 0, 80, .inl (fun _ => 0))), (a23, .inl (cA 0, 80, .inl (fun _ => 0))), (a31, .inl (cA 0, 80, .inl (fun _ => 0))), (a39, .inl (cA 0, 80, .inl (fun _ => 0)))] := hD
  refine W.widen (k := 5) (n := 400) (Nat.le_of_ble_eq_true rfl) (Nat.le_of_ble_eq_true rfl) ?_
  refine va_putF (D := D) (ci := 1) (v := .ref a39) (ty := .array .int) (C := RX1) (T := TX1) (N := 8) hx hb hts (mm_cls_ok 1 _ _ _ rfl).1 tyX1 tyX1_ok nmX1 hown hK hP hD hS 0 rfl rfl 4 (by decide +kernel) (hts (.fieldLink "DieGraphs$Coins" 24 "DieGraphs$Coins" "backStages" "[I") (tb 71 (by decide +kernel) (by decide +kernel))) (fun _ h9 => h9) rfl hinn rfl (by decide +kernel) rfl rfl (Nat.le_of_ble_eq_true rfl) dIC_41 (fun H locs hP hD hS => ?_)
  have hP : va_P D vwC [(h0, .inr (1, [.ref a7, .ref a15, .ref a23, .ref a31, .ref a39, .null, .null, .int 0])), (a7, .inl (cA 0, 80, .inl (fun _ => 0))), (a15, .inl (cA 0, 80, .inl (fun _ => 0))), (a23, .inl (cA 0, 80, .inl (fun _ => 0))), (a31, .inl (cA 0, 80, .inl (fun _ => 0))), (a39, .inl (cA 0, 80, .inl (fun _ => 0)))] H := hP
  have hD : va_D A [(h0, .inr (1, [.ref a7, .ref a15, .ref a23, .ref a31, .ref a39, .null, .null, .int 0])), (a7, .inl (cA 0, 80, .inl (fun _ => 0))), (a15, .inl (cA 0, 80, .inl (fun _ => 0))), (a23, .inl (cA 0, 80, .inl (fun _ => 0))), (a31, .inl (cA 0, 80, .inl (fun _ => 0))), (a39, .inl (cA 0, 80, .inl (fun _ => 0)))] := hD
  refine lv_aload_n hx hb dIC_44 rfl (lv_at hl 0 rfl) ?_
  refine lv_bipush (v := 80) hx hb dIC_45 (by decide +kernel) ?_
  refine nwA (atype := .int) (t := 0) (N' := 80) (a0 := (80, .inl (fun _ => 0))) t_int b_int hx hb (hts (.arrayClass .int) (tb 92 (by decide +kernel) (by decide +kernel))) rfl hK hP hD hS hA (fun _ => rfl) (by decide +kernel) (by decide +kernel) (by decide +kernel) (Nat.le_of_ble_eq_true rfl) (Nat.le_of_ble_eq_true rfl) dIC_47 (fun a47 H hP hD hS => ?_)
  have hP : va_P D vwC [(h0, .inr (1, [.ref a7, .ref a15, .ref a23, .ref a31, .ref a39, .null, .null, .int 0])), (a7, .inl (cA 0, 80, .inl (fun _ => 0))), (a15, .inl (cA 0, 80, .inl (fun _ => 0))), (a23, .inl (cA 0, 80, .inl (fun _ => 0))), (a31, .inl (cA 0, 80, .inl (fun _ => 0))), (a39, .inl (cA 0, 80, .inl (fun _ => 0))), (a47, .inl (cA 0, 80, .inl (fun _ => 0)))] H := hP
  have hD : va_D A [(h0, .inr (1, [.ref a7, .ref a15, .ref a23, .ref a31, .ref a39, .null, .null, .int 0])), (a7, .inl (cA 0, 80, .inl (fun _ => 0))), (a15, .inl (cA 0, 80, .inl (fun _ => 0))), (a23, .inl (cA 0, 80, .inl (fun _ => 0))), (a31, .inl (cA 0, 80, .inl (fun _ => 0))), (a39, .inl (cA 0, 80, .inl (fun _ => 0))), (a47, .inl (cA 0, 80, .inl (fun _ => 0)))] := hD
  refine W.widen (k := 6) (n := 480) (Nat.le_of_ble_eq_true rfl) (Nat.le_of_ble_eq_true rfl) ?_
  refine va_putF (D := D) (ci := 1) (v := .ref a47) (ty := .array .int) (C := RX1) (T := TX1) (N := 8) hx hb hts (mm_cls_ok 1 _ _ _ rfl).1 tyX1 tyX1_ok nmX1 hown hK hP hD hS 0 rfl rfl 5 (by decide +kernel) (hts (.fieldLink "DieGraphs$Coins" 27 "DieGraphs$Coins" "hoardSets" "[I") (tb 72 (by decide +kernel) (by decide +kernel))) (fun _ h9 => h9) rfl hinn rfl (by decide +kernel) rfl rfl (Nat.le_of_ble_eq_true rfl) dIC_49 (fun H locs hP hD hS => ?_)
  have hP : va_P D vwC [(h0, .inr (1, [.ref a7, .ref a15, .ref a23, .ref a31, .ref a39, .ref a47, .null, .int 0])), (a7, .inl (cA 0, 80, .inl (fun _ => 0))), (a15, .inl (cA 0, 80, .inl (fun _ => 0))), (a23, .inl (cA 0, 80, .inl (fun _ => 0))), (a31, .inl (cA 0, 80, .inl (fun _ => 0))), (a39, .inl (cA 0, 80, .inl (fun _ => 0))), (a47, .inl (cA 0, 80, .inl (fun _ => 0)))] H := hP
  have hD : va_D A [(h0, .inr (1, [.ref a7, .ref a15, .ref a23, .ref a31, .ref a39, .ref a47, .null, .int 0])), (a7, .inl (cA 0, 80, .inl (fun _ => 0))), (a15, .inl (cA 0, 80, .inl (fun _ => 0))), (a23, .inl (cA 0, 80, .inl (fun _ => 0))), (a31, .inl (cA 0, 80, .inl (fun _ => 0))), (a39, .inl (cA 0, 80, .inl (fun _ => 0))), (a47, .inl (cA 0, 80, .inl (fun _ => 0)))] := hD
  refine lv_aload_n hx hb dIC_52 rfl (lv_at hl 0 rfl) ?_
  refine lv_bipush (v := 80) hx hb dIC_53 (by decide +kernel) ?_
  refine nwA (atype := .boolean) (t := 1) (N' := 80) (a0 := (80, .inl (fun _ => 0))) t_boolean b_boolean hx hb (hts (.arrayClass .boolean) (tb 93 (by decide +kernel) (by decide +kernel))) rfl hK hP hD hS hA (fun _ => rfl) (by decide +kernel) (by decide +kernel) (by decide +kernel) (Nat.le_of_ble_eq_true rfl) (Nat.le_of_ble_eq_true rfl) dIC_55 (fun a55 H hP hD hS => ?_)
  have hP : va_P D vwC [(h0, .inr (1, [.ref a7, .ref a15, .ref a23, .ref a31, .ref a39, .ref a47, .null, .int 0])), (a7, .inl (cA 0, 80, .inl (fun _ => 0))), (a15, .inl (cA 0, 80, .inl (fun _ => 0))), (a23, .inl (cA 0, 80, .inl (fun _ => 0))), (a31, .inl (cA 0, 80, .inl (fun _ => 0))), (a39, .inl (cA 0, 80, .inl (fun _ => 0))), (a47, .inl (cA 0, 80, .inl (fun _ => 0))), (a55, .inl (cA 1, 80, .inl (fun _ => 0)))] H := hP
  have hD : va_D A [(h0, .inr (1, [.ref a7, .ref a15, .ref a23, .ref a31, .ref a39, .ref a47, .null, .int 0])), (a7, .inl (cA 0, 80, .inl (fun _ => 0))), (a15, .inl (cA 0, 80, .inl (fun _ => 0))), (a23, .inl (cA 0, 80, .inl (fun _ => 0))), (a31, .inl (cA 0, 80, .inl (fun _ => 0))), (a39, .inl (cA 0, 80, .inl (fun _ => 0))), (a47, .inl (cA 0, 80, .inl (fun _ => 0))), (a55, .inl (cA 1, 80, .inl (fun _ => 0)))] := hD
  refine W.widen (k := 7) (n := 560) (Nat.le_of_ble_eq_true rfl) (Nat.le_of_ble_eq_true rfl) ?_
  refine va_putF (D := D) (ci := 1) (v := .ref a55) (ty := .array .boolean) (C := RX1) (T := TX1) (N := 8) hx hb hts (mm_cls_ok 1 _ _ _ rfl).1 tyX1 tyX1_ok nmX1 hown hK hP hD hS 0 rfl rfl 6 (by decide +kernel) (hts (.fieldLink "DieGraphs$Coins" 30 "DieGraphs$Coins" "doubts" "[Z") (tb 73 (by decide +kernel) (by decide +kernel))) (fun _ h9 => h9) rfl hinn rfl (by decide +kernel) rfl rfl (Nat.le_of_ble_eq_true rfl) dIC_57 (fun H locs hP hD hS => ?_)
  have hP : va_P D vwC [(h0, .inr (1, [.ref a7, .ref a15, .ref a23, .ref a31, .ref a39, .ref a47, .ref a55, .int 0])), (a7, .inl (cA 0, 80, .inl (fun _ => 0))), (a15, .inl (cA 0, 80, .inl (fun _ => 0))), (a23, .inl (cA 0, 80, .inl (fun _ => 0))), (a31, .inl (cA 0, 80, .inl (fun _ => 0))), (a39, .inl (cA 0, 80, .inl (fun _ => 0))), (a47, .inl (cA 0, 80, .inl (fun _ => 0))), (a55, .inl (cA 1, 80, .inl (fun _ => 0)))] H := hP
  have hD : va_D A [(h0, .inr (1, [.ref a7, .ref a15, .ref a23, .ref a31, .ref a39, .ref a47, .ref a55, .int 0])), (a7, .inl (cA 0, 80, .inl (fun _ => 0))), (a15, .inl (cA 0, 80, .inl (fun _ => 0))), (a23, .inl (cA 0, 80, .inl (fun _ => 0))), (a31, .inl (cA 0, 80, .inl (fun _ => 0))), (a39, .inl (cA 0, 80, .inl (fun _ => 0))), (a47, .inl (cA 0, 80, .inl (fun _ => 0))), (a55, .inl (cA 1, 80, .inl (fun _ => 0)))] := hD
  refine lv_aload_n hx hb dIC_60 rfl (lv_at hl 0 rfl) ?_
  refine lv_iconst (v := 0) hx hb dIC_61 (by decide +kernel) ?_
  refine va_put (D := D) (ci := 1) (v := .int 0) (ty := .int) (C := RX1) (T := TX1) (N := 8) hx hb hts (mm_cls_ok 1 _ _ _ rfl).1 tyX1 tyX1_ok nmX1 hown hK hP hD hS 0 rfl rfl 7 (by decide +kernel) (hts (.fieldLink "DieGraphs$Coins" 34 "DieGraphs$Coins" "size" "I") (tb 74 (by decide +kernel) (by decide +kernel))) (fun _ h9 => h9) rfl (by decide +kernel) rfl rfl (Nat.le_of_ble_eq_true rfl) dIC_62 (fun H locs hP hD hS => ?_)
  have hP : va_P D vwC [(h0, .inr (1, [.ref a7, .ref a15, .ref a23, .ref a31, .ref a39, .ref a47, .ref a55, .int 0])), (a7, .inl (cA 0, 80, .inl (fun _ => 0))), (a15, .inl (cA 0, 80, .inl (fun _ => 0))), (a23, .inl (cA 0, 80, .inl (fun _ => 0))), (a31, .inl (cA 0, 80, .inl (fun _ => 0))), (a39, .inl (cA 0, 80, .inl (fun _ => 0))), (a47, .inl (cA 0, 80, .inl (fun _ => 0))), (a55, .inl (cA 1, 80, .inl (fun _ => 0)))] H := hP
  have hD : va_D A [(h0, .inr (1, [.ref a7, .ref a15, .ref a23, .ref a31, .ref a39, .ref a47, .ref a55, .int 0])), (a7, .inl (cA 0, 80, .inl (fun _ => 0))), (a15, .inl (cA 0, 80, .inl (fun _ => 0))), (a23, .inl (cA 0, 80, .inl (fun _ => 0))), (a31, .inl (cA 0, 80, .inl (fun _ => 0))), (a39, .inl (cA 0, 80, .inl (fun _ => 0))), (a47, .inl (cA 0, 80, .inl (fun _ => 0))), (a55, .inl (cA 1, 80, .inl (fun _ => 0)))] := hD
  have hP9 := hP.sub (ws' := [(h0, .inr (1, [.ref a7, .ref a15, .ref a23, .ref a31, .ref a39, .ref a47, .ref a55, .int 0])), (a7, .inl (cA 0, 80, .inl (fun _ => 0))), (a15, .inl (cA 0, 80, .inl (fun _ => 0))), (a23, .inl (cA 0, 80, .inl (fun _ => 0))), (a31, .inl (cA 0, 80, .inl (fun _ => 0))), (a39, .inl (cA 0, 80, .inl (fun _ => 0))), (a47, .inl (cA 0, 80, .inl (fun _ => 0))), (a55, .inl (cA 1, 80, .inl (fun _ => 0)))]) [0, 1, 2, 3, 4, 5, 6, 7] rfl
  have hD9 := hD.sub (ws' := [(h0, .inr (1, [.ref a7, .ref a15, .ref a23, .ref a31, .ref a39, .ref a47, .ref a55, .int 0])), (a7, .inl (cA 0, 80, .inl (fun _ => 0))), (a15, .inl (cA 0, 80, .inl (fun _ => 0))), (a23, .inl (cA 0, 80, .inl (fun _ => 0))), (a31, .inl (cA 0, 80, .inl (fun _ => 0))), (a39, .inl (cA 0, 80, .inl (fun _ => 0))), (a47, .inl (cA 0, 80, .inl (fun _ => 0))), (a55, .inl (cA 1, 80, .inl (fun _ => 0)))]) [0, 1, 2, 3, 4, 5, 6, 7] (by decide +kernel) rfl
  exact W.vret hx hb hr (fun t ht hW => ⟨⟨(), rfl, trivial, a7, a15, a23, a31, a39, a47, a55, by rw [ht]; exact hP9, hD9⟩, hS.F ht⟩) hS.2.2 dIC_65
