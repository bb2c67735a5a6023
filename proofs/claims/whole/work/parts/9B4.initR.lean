theorem dIR_0 : decode cR_init 0 = .ok (.aload_n 0, 1) := by decide +kernel
theorem dIR_1 : decode cR_init 1 = .ok (.invokespecial 3, 3) := by decide +kernel
theorem dIR_4 : decode cR_init 4 = .ok (.aload_n 0, 1) := by decide +kernel
theorem dIR_5 : decode cR_init 5 = .ok (.bipush 40, 2) := by decide +kernel
theorem dIR_7 : decode cR_init 7 = .ok (.newarray .int, 2) := by decide +kernel
theorem dIR_9 : decode cR_init 9 = .ok (.putfield 9, 3) := by decide +kernel
theorem dIR_12 : decode cR_init 12 = .ok (.aload_n 0, 1) := by decide +kernel
theorem dIR_13 : decode cR_init 13 = .ok (.iconst 0, 1) := by decide +kernel
theorem dIR_14 : decode cR_init 14 = .ok (.putfield 15, 3) := by decide +kernel
theorem dIR_17 : decode cR_init 17 = .ok (.aload_n 0, 1) := by decide +kernel
theorem dIR_18 : decode cR_init 18 = .ok (.iconst 0, 1) := by decide +kernel
theorem dIR_19 : decode cR_init 19 = .ok (.putfield 19, 3) := by decide +kernel
theorem dIR_22 : decode cR_init 22 = .ok (.aload_n 0, 1) := by decide +kernel
theorem dIR_23 : decode cR_init 23 = .ok (.sipush 240, 3) := by decide +kernel
theorem dIR_26 : decode cR_init 26 = .ok (.newarray .int, 2) := by decide +kernel
theorem dIR_28 : decode cR_init 28 = .ok (.putfield 22, 3) := by decide +kernel
theorem dIR_31 : decode cR_init 31 = .ok (.aload_n 0, 1) := by decide +kernel
theorem dIR_32 : decode cR_init 32 = .ok (.sipush 240, 3) := by decide +kernel
theorem dIR_35 : decode cR_init 35 = .ok (.newarray .int, 2) := by decide +kernel
theorem dIR_37 : decode cR_init 37 = .ok (.putfield 25, 3) := by decide +kernel
theorem dIR_40 : decode cR_init 40 = .ok (.aload_n 0, 1) := by decide +kernel
theorem dIR_41 : decode cR_init 41 = .ok (.bipush 12, 2) := by decide +kernel
theorem dIR_43 : decode cR_init 43 = .ok (.newarray .int, 2) := by decide +kernel
theorem dIR_45 : decode cR_init 45 = .ok (.putfield 28, 3) := by decide +kernel
theorem dIR_48 : decode cR_init 48 = .ok (.aload_n 0, 1) := by decide +kernel
theorem dIR_49 : decode cR_init 49 = .ok (.bipush 12, 2) := by decide +kernel
theorem dIR_51 : decode cR_init 51 = .ok (.newarray .int, 2) := by decide +kernel
theorem dIR_53 : decode cR_init 53 = .ok (.putfield 31, 3) := by decide +kernel
theorem dIR_56 : decode cR_init 56 = .ok (.aload_n 0, 1) := by decide +kernel
theorem dIR_57 : decode cR_init 57 = .ok (.iconst 0, 1) := by decide +kernel
theorem dIR_58 : decode cR_init 58 = .ok (.putfield 34, 3) := by decide +kernel
theorem dIR_61 : decode cR_init 61 = .ok (.aload_n 0, 1) := by decide +kernel
theorem dIR_62 : decode cR_init 62 = .ok (.aload_n 1, 1) := by decide +kernel
theorem dIR_63 : decode cR_init 63 = .ok (.putfield 37, 3) := by decide +kernel
theorem dIR_66 : decode cR_init 66 = .ok (.return_, 1) := by decide +kernel
theorem gI_R : GoodIn tbl (Jvm.Cond.code yR_init cR_init 2 none :: tbl) := fun w h => (List.mem_cons.mp h).elim (fun q => tbl_good w (by rw [q]; exact (tb 151 (by decide +kernel) (by decide +kernel)))) (tbl_good w)
set_option maxHeartbeats 4000000 in
set_option maxRecDepth 100000 in
theorem c_R_init (l : Launch) (D : va_G) (cA : Nat → ClassId) (h0 sz a0 : Nat) : Met l yR_init (Jvm.Cond.code yR_init cR_init 2 none :: tbl) ({ frames := 1, cells := 5, slots := 544, locals := 33 }) (va_Pc [.ref h0, .ref a0] (fun U => U.heap.size = sz ∧ va_P D vwC [(h0, .inr (3, [.null, .null, .int 0, .int 0, .null, .null, .null, .null, .int 0]))] U.heap ∧ va_K D vwC (mm_tys cA) U ∧ va_D (fun _ => True) [(h0, .inr (3, [.null, .null, .int 0, .int 0, .null, .null, .null, .null, .int 0]))])) (va_Qv (fun _ : Unit => True) (fun _ t => ∃ a7 a26 a35 a43 a51 : Nat, va_P D vwC [(h0, .inr (3, [.ref a0, .ref a7, .int 0, .int 0, .ref a26, .ref a35, .ref a43, .ref a51, .int 0])), (a7, .inl (cA 0, 40, .inl (fun _ => 0))), (a26, .inl (cA 0, 240, .inl (fun _ => 0))), (a35, .inl (cA 0, 240, .inl (fun _ => 0))), (a43, .inl (cA 0, 12, .inl (fun _ => 0))), (a51, .inl (cA 0, 12, .inl (fun _ => 0)))] t.heap ∧ va_D (va_A [(h0, .inr (3, [.null, .null, .int 0, .int 0, .null, .null, .null, .null, .int 0]))] sz) [(h0, .inr (3, [.ref a0, .ref a7, .int 0, .int 0, .ref a26, .ref a35, .ref a43, .ref a51, .int 0])), (a7, .inl (cA 0, 40, .inl (fun _ => 0))), (a26, .inl (cA 0, 240, .inl (fun _ => 0))), (a35, .inl (cA 0, 240, .inl (fun _ => 0))), (a43, .inl (cA 0, 12, .inl (fun _ => 0))), (a51, .inl (cA 0, 12, .inl (fun _ => 0)))]) (va_A [(h0, .inr (3, [.null, .null, .int 0, .int 0, .null, .null, .null, .null, .int 0]))] sz)) 5 544 (va_A [(h0, .inr (3, [.null, .null, .int 0, .int 0, .null, .null, .null, .null, .int 0]))] sz) := by
  refine Met.ofW (cc := cR_init) (maxL := 2) (ret := none) (by decide +kernel) rfl ?_
  intro p e s m args below meth c s₁ B hml hv
  obtain ⟨rfl, hsz, hP, hK, hD0⟩ := hv
  have hx := B.exec
  have hb := B.bytes
  have hr := B.returns
  have hts0 := atoms_spec (ws := Jvm.Cond.code yR_init cR_init 2 none :: tbl) B.pre
  have hts := fun w (h : w ∈ tbl) => hts0 w (List.mem_cons_of_mem _ h)
  have hown : s.vm.findClass "DieGraphs$Rules" = some m.cls := findClass_of_methodNamed B.named
  have hlocks := B.notSynchronized
  have hinn : meth.name = "<init>" := (name_of_methodNamed B.named B.method).1
  subst hsz
  have hD := hD0.self (sz := s.heap.size)
  generalize hAe : va_A [(h0, .inr (3, [.null, .null, .int 0, .int 0, .null, .null, .null, .null, .int 0]))] s.heap.size = A at hD ⊢
  have hA : ∀ q : Nat, s.heap.size ≤ q → A q := fun q h => by rw [← hAe]; exact Or.inr h
  have hS : va_S A s.heap s.heap [] := va_S.rf
  have hP : va_P D vwC [(h0, .inr (3, [.null, .null, .int 0, .int 0, .null, .null, .null, .null, .int 0]))] s.heap := hP
  have hl := lv_entry ([.ref h0, .ref a0]) (n := 2) (Nat.le_of_ble_eq_true rfl)
  rw [lg_entry_eq]
  generalize (lg_sl ([.ref h0, .ref a0]) ++ List.replicate (2 - (lg_sl ([.ref h0, .ref a0])).length) Slot.unset).toArray = ls at hl ⊢
  have hl : lv_has ls 2 [(0, .ref h0), (1, .ref a0)] := hl
  refine lv_aload_n hx hb dIR_0 rfl (lv_at hl 0 rfl) ?_
  refine W.objInit hx hb hown (hts (.methodLink "DieGraphs$Rules" 3 objectInit) (tb 152 (by decide +kernel) (by decide +kernel))) (hts _ wOM) (hts _ wOI) rfl (by rw [hml]; exact hl.1) rfl dIR_1 (Nat.le_of_ble_eq_true rfl) (Nat.le_of_ble_eq_true rfl) ?_
  refine W.eq (g2 := F0 m 4 ls []) rfl ?_
  refine lv_aload_n hx hb dIR_4 rfl (lv_at hl 0 rfl) ?_
  refine lv_bipush (v := 40) hx hb dIR_5 (by decide +kernel) ?_
  refine nwA (atype := .int) (t := 0) (N' := 40) (a0 := (40, .inl (fun _ => 0))) t_int b_int hx hb (hts (.arrayClass .int) (tb 92 (by decide +kernel) (by decide +kernel))) rfl hK hP hD hS hA (fun _ => rfl) (by decide +kernel) (by decide +kernel) (by decide +kernel) (Nat.le_of_ble_eq_true rfl) (Nat.le_of_ble_eq_true rfl) dIR_7 (fun a7 H hP hD hS => ?_)
  have hP : va_P D vwC [(h0, .inr (3, [.null, .null, .int 0, .int 0, .null, .null, .null, .null, .int 0])), (a7, .inl (cA 0, 40, .inl (fun _ => 0)))] H := hP
  have hD : va_D A [(h0, .inr (3, [.null, .null, .int 0, .int 0, .null, .null, .null, .null, .int 0])), (a7, .inl (cA 0, 40, .inl (fun _ => 0)))] := hD
  refine W.widen (k := 1) (n := 40) (Nat.le_of_ble_eq_true rfl) (Nat.le_of_ble_eq_true rfl) ?_
  refine va_putF (D := D) (ci := 3) (v := .ref a7) (ty := .array .int) (C := RX3) (T := TX3) (N := 9) hx hb hts (mm_cls_ok 3 _ _ _ rfl).1 tyX3 tyX3_ok nmX3 hown hK hP hD hS 0 rfl rfl 1 (by decide +kernel) (hts (.fieldLink "DieGraphs$Rules" 9 "DieGraphs$Rules" "text" "[I") (tb 154 (by decide +kernel) (by decide +kernel))) (fun _ h9 => h9) rfl hinn rfl (by decide +kernel) rfl rfl (Nat.le_of_ble_eq_true rfl) dIR_9 (fun H locs hP hD hS => ?_)
  have hP : va_P D vwC [(h0, .inr (3, [.null, .ref a7, .int 0, .int 0, .null, .null, .null, .null, .int 0])), (a7, .inl (cA 0, 40, .inl (fun _ => 0)))] H := hP
  have hD : va_D A [(h0, .inr (3, [.null, .ref a7, .int 0, .int 0, .null, .null, .null, .null, .int 0])), (a7, .inl (cA 0, 40, .inl (fun _ => 0)))] := hD
  refine lv_aload_n hx hb dIR_12 rfl (lv_at hl 0 rfl) ?_
  refine lv_iconst (v := 0) hx hb dIR_13 (by decide +kernel) ?_
  refine va_put (D := D) (ci := 3) (v := .int 0) (ty := .int) (C := RX3) (T := TX3) (N := 9) hx hb hts (mm_cls_ok 3 _ _ _ rfl).1 tyX3 tyX3_ok nmX3 hown hK hP hD hS 0 rfl rfl 2 (by decide +kernel) (hts (.fieldLink "DieGraphs$Rules" 15 "DieGraphs$Rules" "textLength" "I") (tb 155 (by decide +kernel) (by decide +kernel))) (fun _ h9 => h9) rfl (by decide +kernel) rfl rfl (Nat.le_of_ble_eq_true rfl) dIR_14 (fun H locs hP hD hS => ?_)
  have hP : va_P D vwC [(h0, .inr (3, [.null, .ref a7, .int 0, .int 0, .null, .null, .null, .null, .int 0])), (a7, .inl (cA 0, 40, .inl (fun _ => 0)))] H := hP
  have hD : va_D A [(h0, .inr (3, [.null, .ref a7, .int 0, .int 0, .null, .null, .null, .null, .int 0])), (a7, .inl (cA 0, 40, .inl (fun _ => 0)))] := hD
  refine lv_aload_n hx hb dIR_17 rfl (lv_at hl 0 rfl) ?_
  refine lv_iconst (v := 0) hx hb dIR_18 (by decide +kernel) ?_
  refine va_put (D := D) (ci := 3) (v := .int 0) (ty := .int) (C := RX3) (T := TX3) (N := 9) hx hb hts (mm_cls_ok 3 _ _ _ rfl).1 tyX3 tyX3_ok nmX3 hown hK hP hD hS 0 rfl rfl 3 (by decide +kernel) (hts (.fieldLink "DieGraphs$Rules" 19 "DieGraphs$Rules" "place" "I") (tb 156 (by decide +kernel) (by decide +kernel))) (fun _ h9 => h9) rfl (by decide +kernel) rfl rfl (Nat.le_of_ble_eq_true rfl) dIR_19 (fun H locs hP hD hS => ?_)
  have hP : va_P D vwC [(h0, .inr (3, [.null, .ref a7, .int 0, .int 0, .null, .null, .null, .null, .int 0])), (a7, .inl (cA 0, 40, .inl (fun _ => 0)))] H := hP
  have hD : va_D A [(h0, .inr (3, [.null, .ref a7, .int 0, .int 0, .null, .null, .null, .null, .int 0])), (a7, .inl (cA 0, 40, .inl (fun _ => 0)))] := hD
  refine lv_aload_n hx hb dIR_22 rfl (lv_at hl 0 rfl) ?_
  refine lv_sipush (v := 240) hx hb dIR_23 (by decide +kernel) ?_
  refine nwA (atype := .int) (t := 0) (N' := 240) (a0 := (240, .inl (fun _ => 0))) t_int b_int hx hb (hts (.arrayClass .int) (tb 92 (by decide +kernel) (by decide +kernel))) rfl hK hP hD hS hA (fun _ => rfl) (by decide +kernel) (by decide +kernel) (by decide +kernel) (Nat.le_of_ble_eq_true rfl) (Nat.le_of_ble_eq_true rfl) dIR_26 (fun a26 H hP hD hS => ?_)
  have hP : va_P D vwC [(h0, .inr (3, [.null, .ref a7, .int 0, .int 0, .null, .null, .null, .null, .int 0])), (a7, .inl (cA 0, 40, .inl (fun _ => 0))), (a26, .inl (cA 0, 240, .inl (fun _ => 0)))] H := hP
  have hD : va_D A [(h0, .inr (3, [.null, .ref a7, .int 0, .int 0, .null, .null, .null, .null, .int 0])), (a7, .inl (cA 0, 40, .inl (fun _ => 0))), (a26, .inl (cA 0, 240, .inl (fun _ => 0)))] := hD
  refine W.widen (k := 2) (n := 280) (Nat.le_of_ble_eq_true rfl) (Nat.le_of_ble_eq_true rfl) ?_
  refine va_putF (D := D) (ci := 3) (v := .ref a26) (ty := .array .int) (C := RX3) (T := TX3) (N := 9) hx hb hts (mm_cls_ok 3 _ _ _ rfl).1 tyX3 tyX3_ok nmX3 hown hK hP hD hS 0 rfl rfl 4 (by decide +kernel) (hts (.fieldLink "DieGraphs$Rules" 22 "DieGraphs$Rules" "kinds" "[I") (tb 157 (by decide +kernel) (by decide +kernel))) (fun _ h9 => h9) rfl hinn rfl (by decide +kernel) rfl rfl (Nat.le_of_ble_eq_true rfl) dIR_28 (fun H locs hP hD hS => ?_)
  have hP : va_P D vwC [(h0, .inr (3, [.null, .ref a7, .int 0, .int 0, .ref a26, .null, .null, .null, .int 0])), (a7, .inl (cA 0, 40, .inl (fun _ => 0))), (a26, .inl (cA 0, 240, .inl (fun _ => 0)))] H := hP
  have hD : va_D A [(h0, .inr (3, [.null, .ref a7, .int 0, .int 0, .ref a26, .null, .null, .null, .int 0])), (a7, .inl (cA 0, 40, .inl (fun _ => 0))), (a26, .inl (cA 0, 240, .inl (fun _ => 0)))] := hD
  refine lv_aload_n hx hb dIR_31 rfl (lv_at hl 0 rfl) ?_
  refine lv_sipush (v := 240) hx hb dIR_32 (by decide +kernel) ?_
  refine nwA (atype := .int) (t := 0) (N' := 240) (a0 := (240, .inl (fun _ => 0))) t_int b_int hx hb (hts (.arrayClass .int) (tb 92 (by decide +kernel) (by decide +kernel))) rfl hK hP hD hS hA (fun _ => rfl) (by decide +kernel) (by decide +kernel) (by decide +kernel) (Nat.le_of_ble_eq_true rfl) (Nat.le_of_ble_eq_true rfl) dIR_35 (fun a35 H hP hD hS => ?_)
  have hP : va_P D vwC [(h0, .inr (3, [.null, .ref a7, .int 0, .int 0, .ref a26, .null, .null, .null, .int 0])), (a7, .inl (cA 0, 40, .inl (fun _ => 0))), (a26, .inl (cA 0, 240, .inl (fun _ => 0))), (a35, .inl (cA 0, 240, .inl (fun _ => 0)))] H := hP
  have hD : va_D A [(h0, .inr (3, [.null, .ref a7, .int 0, .int 0, .ref a26, .null, .null, .null, .int 0])), (a7, .inl (cA 0, 40, .inl (fun _ => 0))), (a26, .inl (cA 0, 240, .inl (fun _ => 0))), (a35, .inl (cA 0, 240, .inl (fun _ => 0)))] := hD
  refine W.widen (k := 3) (n := 520) (Nat.le_of_ble_eq_true rfl) (Nat.le_of_ble_eq_true rfl) ?_
  refine va_putF (D := D) (ci := 3) (v := .ref a35) (ty := .array .int) (C := RX3) (T := TX3) (N := 9) hx hb hts (mm_cls_ok 3 _ _ _ rfl).1 tyX3 tyX3_ok nmX3 hown hK hP hD hS 0 rfl rfl 5 (by decide +kernel) (hts (.fieldLink "DieGraphs$Rules" 25 "DieGraphs$Rules" "numbers" "[I") (tb 158 (by decide +kernel) (by decide +kernel))) (fun _ h9 => h9) rfl hinn rfl (by decide +kernel) rfl rfl (Nat.le_of_ble_eq_true rfl) dIR_37 (fun H locs hP hD hS => ?_)
  have hP : va_P D vwC [(h0, .inr (3, [.null, .ref a7, .int 0, .int 0, .ref a26, .ref a35, .null, .null, .int 0])), (a7, .inl (cA 0, 40, .inl (fun _ => 0))), (a26, .inl (cA 0, 240, .inl (fun _ => 0))), (a35, .inl (cA 0, 240, .inl (fun _ => 0)))] H := hP
  have hD : va_D A [(h0, .inr (3, [.null, .ref a7, .int 0, .int 0, .ref a26, .ref a35, .null, .null, .int 0])), (a7, .inl (cA 0, 40, .inl (fun _ => 0))), (a26, .inl (cA 0, 240, .inl (fun _ => 0))), (a35, .inl (cA 0, 240, .inl (fun _ => 0)))] := hD
  refine lv_aload_n hx hb dIR_40 rfl (lv_at hl 0 rfl) ?_
  refine lv_bipush (v := 12) hx hb dIR_41 (by decide +kernel) ?_
  refine nwA (atype := .int) (t := 0) (N' := 12) (a0 := (12, .inl (fun _ => 0))) t_int b_int hx hb (hts (.arrayClass .int) (tb 92 (by decide +kernel) (by decide +kernel))) rfl hK hP hD hS hA (fun _ => rfl) (by decide +kernel) (by decide +kernel) (by decide +kernel) (Nat.le_of_ble_eq_true rfl) (Nat.le_of_ble_eq_true rfl) dIR_43 (fun a43 H hP hD hS => ?_)
  have hP : va_P D vwC [(h0, .inr (3, [.null, .ref a7, .int 0, .int 0, .ref a26, .ref a35, .null, .null, .int 0])), (a7, .inl (cA 0, 40, .inl (fun _ => 0))), (a26, .inl (cA 0, 240, .inl (fun _ => 0))), (a35, .inl (cA 0, 240, .inl (fun _ => 0))), (a43, .inl (cA 0, 12, .inl (fun _ => 0)))] H := hP
  have hD : va_D A [(h0, .inr (3, [.null, .ref a7, .int 0, .int 0, .ref a26, .ref a35, .null, .null, .int 0])), (a7, .inl (cA 0, 40, .inl (fun _ => 0))), (a26, .inl (cA 0, 240, .inl (fun _ => 0))), (a35, .inl (cA 0, 240, .inl (fun _ => 0))), (a43, .inl (cA 0, 12, .inl (fun _ => 0)))] := hD
  refine W.widen (k := 4) (n := 532) (Nat.le_of_ble_eq_true rfl) (Nat.le_of_ble_eq_true rfl) ?_
  refine va_putF (D := D) (ci := 3) (v := .ref a43) (ty := .array .int) (C := RX3) (T := TX3) (N := 9) hx hb hts (mm_cls_ok 3 _ _ _ rfl).1 tyX3 tyX3_ok nmX3 hown hK hP hD hS 0 rfl rfl 6 (by decide +kernel) (hts (.fieldLink "DieGraphs$Rules" 28 "DieGraphs$Rules" "conditions" "[I") (tb 159 (by decide +kernel) (by decide +kernel))) (fun _ h9 => h9) rfl hinn rfl (by decide +kernel) rfl rfl (Nat.le_of_ble_eq_true rfl) dIR_45 (fun H locs hP hD hS => ?_)
  have hP : va_P D vwC [(h0, .inr (3, [.null, .ref a7, .int 0, .int 0, .ref a26, .ref a35, .ref a43, .null, .int 0])), (a7, .inl (cA 0, 40, .inl (fun _ => 0))), (a26, .inl (cA 0, 240, .inl (fun _ => 0))), (a35, .inl (cA 0, 240, .inl (fun _ => 0))), (a43, .inl (cA 0, 12, .inl (fun _ => 0)))] H := hP
  have hD : va_D A [(h0, .inr (3, [.null, .ref a7, .int 0, .int 0, .ref a26, .ref a35, .ref a43, .null, .int 0])), (a7, .inl (cA 0, 40, .inl (fun _ => 0))), (a26, .inl (cA 0, 240, .inl (fun _ => 0))), (a35, .inl (cA 0, 240, .inl (fun _ => 0))), (a43, .inl (cA 0, 12, .inl (fun _ => 0)))] := hD
  refine lv_aload_n hx hb dIR_48 rfl (lv_at hl 0 rfl) ?_
  refine lv_bipush (v := 12) hx hb dIR_49 (by decide +kernel) ?_
  refine nwA (atype := .int) (t := 0) (N' := 12) (a0 := (12, .inl (fun _ => 0))) t_int b_int hx hb (hts (.arrayClass .int) (tb 92 (by decide +kernel) (by decide +kernel))) rfl hK hP hD hS hA (fun _ => rfl) (by decide +kernel) (by decide +kernel) (by decide +kernel) (Nat.le_of_ble_eq_true rfl) (Nat.le_of_ble_eq_true rfl) dIR_51 (fun a51 H hP hD hS => ?_)
  have hP : va_P D vwC [(h0, .inr (3, [.null, .ref a7, .int 0, .int 0, .ref a26, .ref a35, .ref a43, .null, .int 0])), (a7, .inl (cA 0, 40, .inl (fun _ => 0))), (a26, .inl (cA 0, 240, .inl (fun _ => 0))), (a35, .inl (cA 0, 240, .inl (fun _ => 0))), (a43, .inl (cA 0, 12, .inl (fun _ => 0))), (a51, .inl (cA 0, 12, .inl (fun _ => 0)))] H := hP
  have hD : va_D A [(h0, .inr (3, [.null, .ref a7, .int 0, .int 0, .ref a26, .ref a35, .ref a43, .null, .int 0])), (a7, .inl (cA 0, 40, .inl (fun _ => 0))), (a26, .inl (cA 0, 240, .inl (fun _ => 0))), (a35, .inl (cA 0, 240, .inl (fun _ => 0))), (a43, .inl (cA 0, 12, .inl (fun _ => 0))), (a51, .inl (cA 0, 12, .inl (fun _ => 0)))] := hD
  refine W.widen (k := 5) (n := 544) (Nat.le_of_ble_eq_true rfl) (Nat.le_of_ble_eq_true rfl) ?_
  refine va_putF (D := D) (ci := 3) (v := .ref a51) (ty := .array .int) (C := RX3) (T := TX3) (N := 9) hx hb hts (mm_cls_ok 3 _ _ _ rfl).1 tyX3 tyX3_ok nmX3 hown hK hP hD hS 0 rfl rfl 7 (by decide +kernel) (hts (.fieldLink "DieGraphs$Rules" 31 "DieGraphs$Rules" "types" "[I") (tb 160 (by decide +kernel) (by decide +kernel))) (fun _ h9 => h9) rfl hinn rfl (by decide +kernel) rfl rfl (Nat.le_of_ble_eq_true rfl) dIR_53 (fun H locs hP hD hS => ?_)
  have hP : va_P D vwC [(h0, .inr (3, [.null, .ref a7, .int 0, .int 0, .ref a26, .ref a35, .ref a43, .ref a51, .int 0])), (a7, .inl (cA 0, 40, .inl (fun _ => 0))), (a26, .inl (cA 0, 240, .inl (fun _ => 0))), (a35, .inl (cA 0, 240, .inl (fun _ => 0))), (a43, .inl (cA 0, 12, .inl (fun _ => 0))), (a51, .inl (cA 0, 12, .inl (fun _ => 0)))] H := hP
  have hD : va_D A [(h0, .inr (3, [.null, .ref a7, .int 0, .int 0, .ref a26, .ref a35, .ref a43, .ref a51, .int 0])), (a7, .inl (cA 0, 40, .inl (fun _ => 0))), (a26, .inl (cA 0, 240, .inl (fun _ => 0))), (a35, .inl (cA 0, 240, .inl (fun _ => 0))), (a43, .inl (cA 0, 12, .inl (fun _ => 0))), (a51, .inl (cA 0, 12, .inl (fun _ => 0)))] := hD
  refine lv_aload_n hx hb dIR_56 rfl (lv_at hl 0 rfl) ?_
  refine lv_iconst (v := 0) hx hb dIR_57 (by decide +kernel) ?_
  refine va_put (D := D) (ci := 3) (v := .int 0) (ty := .int) (C := RX3) (T := TX3) (N := 9) hx hb hts (mm_cls_ok 3 _ _ _ rfl).1 tyX3 tyX3_ok nmX3 hown hK hP hD hS 0 rfl rfl 8 (by decide +kernel) (hts (.fieldLink "DieGraphs$Rules" 34 "DieGraphs$Rules" "size" "I") (tb 161 (by decide +kernel) (by decide +kernel))) (fun _ h9 => h9) rfl (by decide +kernel) rfl rfl (Nat.le_of_ble_eq_true rfl) dIR_58 (fun H locs hP hD hS => ?_)
  have hP : va_P D vwC [(h0, .inr (3, [.null, .ref a7, .int 0, .int 0, .ref a26, .ref a35, .ref a43, .ref a51, .int 0])), (a7, .inl (cA 0, 40, .inl (fun _ => 0))), (a26, .inl (cA 0, 240, .inl (fun _ => 0))), (a35, .inl (cA 0, 240, .inl (fun _ => 0))), (a43, .inl (cA 0, 12, .inl (fun _ => 0))), (a51, .inl (cA 0, 12, .inl (fun _ => 0)))] H := hP
  have hD : va_D A [(h0, .inr (3, [.null, .ref a7, .int 0, .int 0, .ref a26, .ref a35, .ref a43, .ref a51, .int 0])), (a7, .inl (cA 0, 40, .inl (fun _ => 0))), (a26, .inl (cA 0, 240, .inl (fun _ => 0))), (a35, .inl (cA 0, 240, .inl (fun _ => 0))), (a43, .inl (cA 0, 12, .inl (fun _ => 0))), (a51, .inl (cA 0, 12, .inl (fun _ => 0)))] := hD
  refine lv_aload_n hx hb dIR_61 rfl (lv_at hl 0 rfl) ?_
  refine lv_aload_n hx hb dIR_62 rfl (lv_at hl 1 rfl) ?_
  refine va_putF (D := D) (ci := 3) (v := .ref a0) (ty := .object "DieGraphs$Coins") (C := RX3) (T := TX3) (N := 9) hx hb hts (mm_cls_ok 3 _ _ _ rfl).1 tyX3 tyX3_ok nmX3 hown hK hP hD hS 0 rfl rfl 0 (by decide +kernel) (hts (.fieldLink "DieGraphs$Rules" 37 "DieGraphs$Rules" "coins" "LDieGraphs$Coins;") (tb 153 (by decide +kernel) (by decide +kernel))) (fun _ h9 => h9) rfl hinn rfl (by decide +kernel) rfl rfl (Nat.le_of_ble_eq_true rfl) dIR_63 (fun H locs hP hD hS => ?_)
  have hP : va_P D vwC [(h0, .inr (3, [.ref a0, .ref a7, .int 0, .int 0, .ref a26, .ref a35, .ref a43, .ref a51, .int 0])), (a7, .inl (cA 0, 40, .inl (fun _ => 0))), (a26, .inl (cA 0, 240, .inl (fun _ => 0))), (a35, .inl (cA 0, 240, .inl (fun _ => 0))), (a43, .inl (cA 0, 12, .inl (fun _ => 0))), (a51, .inl (cA 0, 12, .inl (fun _ => 0)))] H := hP
  have hD : va_D A [(h0, .inr (3, [.ref a0, .ref a7, .int 0, .int 0, .ref a26, .ref a35, .ref a43, .ref a51, .int 0])), (a7, .inl (cA 0, 40, .inl (fun _ => 0))), (a26, .inl (cA 0, 240, .inl (fun _ => 0))), (a35, .inl (cA 0, 240, .inl (fun _ => 0))), (a43, .inl (cA 0, 12, .inl (fun _ => 0))), (a51, .inl (cA 0, 12, .inl (fun _ => 0)))] := hD
  have hP9 := hP.sub (ws' := [(h0, .inr (3, [.ref a0, .ref a7, .int 0, .int 0, .ref a26, .ref a35, .ref a43, .ref a51, .int 0])), (a7, .inl (cA 0, 40, .inl (fun _ => 0))), (a26, .inl (cA 0, 240, .inl (fun _ => 0))), (a35, .inl (cA 0, 240, .inl (fun _ => 0))), (a43, .inl (cA 0, 12, .inl (fun _ => 0))), (a51, .inl (cA 0, 12, .inl (fun _ => 0)))]) [0, 1, 2, 3, 4, 5] rfl
  have hD9 := hD.sub (ws' := [(h0, .inr (3, [.ref a0, .ref a7, .int 0, .int 0, .ref a26, .ref a35, .ref a43, .ref a51, .int 0])), (a7, .inl (cA 0, 40, .inl (fun _ => 0))), (a26, .inl (cA 0, 240, .inl (fun _ => 0))), (a35, .inl (cA 0, 240, .inl (fun _ => 0))), (a43, .inl (cA 0, 12, .inl (fun _ => 0))), (a51, .inl (cA 0, 12, .inl (fun _ => 0)))]) [0, 1, 2, 3, 4, 5] (by decide +kernel) rfl
  exact W.vret hx hb hr (fun t ht hW => ⟨⟨(), rfl, trivial, a7, a26, a35, a43, a51, by rw [ht]; exact hP9, hD9⟩, hS.F ht⟩) hS.2.2 dIR_66
