theorem dIP_0 : decode cP_init 0 = .ok (.aload_n 0, 1) := by decide +kernel
theorem dIP_1 : decode cP_init 1 = .ok (.invokespecial 3, 3) := by decide +kernel
theorem dIP_4 : decode cP_init 4 = .ok (.aload_n 0, 1) := by decide +kernel
theorem dIP_5 : decode cP_init 5 = .ok (.bipush 60, 2) := by decide +kernel
theorem dIP_7 : decode cP_init 7 = .ok (.newarray .int, 2) := by decide +kernel
theorem dIP_9 : decode cP_init 9 = .ok (.putfield 9, 3) := by decide +kernel
theorem dIP_12 : decode cP_init 12 = .ok (.aload_n 0, 1) := by decide +kernel
theorem dIP_13 : decode cP_init 13 = .ok (.bipush 60, 2) := by decide +kernel
theorem dIP_15 : decode cP_init 15 = .ok (.newarray .int, 2) := by decide +kernel
theorem dIP_17 : decode cP_init 17 = .ok (.putfield 15, 3) := by decide +kernel
theorem dIP_20 : decode cP_init 20 = .ok (.aload_n 0, 1) := by decide +kernel
theorem dIP_21 : decode cP_init 21 = .ok (.iconst 0, 1) := by decide +kernel
theorem dIP_22 : decode cP_init 22 = .ok (.putfield 18, 3) := by decide +kernel
theorem dIP_25 : decode cP_init 25 = .ok (.aload_n 0, 1) := by decide +kernel
theorem dIP_26 : decode cP_init 26 = .ok (.sipush 320, 3) := by decide +kernel
theorem dIP_29 : decode cP_init 29 = .ok (.newarray .int, 2) := by decide +kernel
theorem dIP_31 : decode cP_init 31 = .ok (.putfield 22, 3) := by decide +kernel
theorem dIP_34 : decode cP_init 34 = .ok (.aload_n 0, 1) := by decide +kernel
theorem dIP_35 : decode cP_init 35 = .ok (.bipush 32, 2) := by decide +kernel
theorem dIP_37 : decode cP_init 37 = .ok (.newarray .int, 2) := by decide +kernel
theorem dIP_39 : decode cP_init 39 = .ok (.putfield 25, 3) := by decide +kernel
theorem dIP_42 : decode cP_init 42 = .ok (.aload_n 0, 1) := by decide +kernel
theorem dIP_43 : decode cP_init 43 = .ok (.bipush 32, 2) := by decide +kernel
theorem dIP_45 : decode cP_init 45 = .ok (.newarray .int, 2) := by decide +kernel
theorem dIP_47 : decode cP_init 47 = .ok (.putfield 28, 3) := by decide +kernel
theorem dIP_50 : decode cP_init 50 = .ok (.aload_n 0, 1) := by decide +kernel
theorem dIP_51 : decode cP_init 51 = .ok (.bipush 33, 2) := by decide +kernel
theorem dIP_53 : decode cP_init 53 = .ok (.newarray .int, 2) := by decide +kernel
theorem dIP_55 : decode cP_init 55 = .ok (.putfield 31, 3) := by decide +kernel
theorem dIP_58 : decode cP_init 58 = .ok (.aload_n 0, 1) := by decide +kernel
theorem dIP_59 : decode cP_init 59 = .ok (.bipush 32, 2) := by decide +kernel
theorem dIP_61 : decode cP_init 61 = .ok (.newarray .int, 2) := by decide +kernel
theorem dIP_63 : decode cP_init 63 = .ok (.putfield 34, 3) := by decide +kernel
theorem dIP_66 : decode cP_init 66 = .ok (.aload_n 0, 1) := by decide +kernel
theorem dIP_67 : decode cP_init 67 = .ok (.iconst 0, 1) := by decide +kernel
theorem dIP_68 : decode cP_init 68 = .ok (.putfield 37, 3) := by decide +kernel
theorem dIP_71 : decode cP_init 71 = .ok (.aload_n 0, 1) := by decide +kernel
theorem dIP_72 : decode cP_init 72 = .ok (.aload_n 1, 1) := by decide +kernel
theorem dIP_73 : decode cP_init 73 = .ok (.putfield 40, 3) := by decide +kernel
theorem dIP_76 : decode cP_init 76 = .ok (.return_, 1) := by decide +kernel
theorem gI_P : GoodIn tbl (Jvm.Cond.code yP_init cP_init 2 none :: tbl) := fun w h => (List.mem_cons.mp h).elim (fun q => tbl_good w (by rw [q]; exact (tb 114 (by decide +kernel) (by decide +kernel)))) (tbl_good w)
set_option maxHeartbeats 4000000 in
set_option maxRecDepth 100000 in
theorem c_P_init (l : Launch) (D : va_G) (cA : Nat → ClassId) (h0 sz a0 : Nat) : Met l yP_init (Jvm.Cond.code yP_init cP_init 2 none :: tbl) ({ frames := 1, cells := 7, slots := 569, locals := 33 }) (va_Pc [.ref h0, .ref a0] (fun U => U.heap.size = sz ∧ va_P D vwC [(h0, .inr (2, [.null, .null, .null, .int 0, .null, .null, .null, .null, .null, .int 0]))] U.heap ∧ va_K D vwC (mm_tys cA) U ∧ va_D (fun _ => True) [(h0, .inr (2, [.null, .null, .null, .int 0, .null, .null, .null, .null, .null, .int 0]))])) (va_Qv (fun _ : Unit => True) (fun _ t => ∃ a7 a15 a29 a37 a45 a53 a61 : Nat, va_P D vwC [(h0, .inr (2, [.ref a0, .ref a7, .ref a15, .int 0, .ref a29, .ref a37, .ref a45, .ref a53, .ref a61, .int 0])), (a7, .inl (cA 0, 60, .inl (fun _ => 0))), (a15, .inl (cA 0, 60, .inl (fun _ => 0))), (a29, .inl (cA 0, 320, .inl (fun _ => 0))), (a37, .inl (cA 0, 32, .inl (fun _ => 0))), (a45, .inl (cA 0, 32, .inl (fun _ => 0))), (a53, .inl (cA 0, 33, .inl (fun _ => 0))), (a61, .inl (cA 0, 32, .inl (fun _ => 0)))] t.heap ∧ va_D (va_A [(h0, .inr (2, [.null, .null, .null, .int 0, .null, .null, .null, .null, .null, .int 0]))] sz) [(h0, .inr (2, [.ref a0, .ref a7, .ref a15, .int 0, .ref a29, .ref a37, .ref a45, .ref a53, .ref a61, .int 0])), (a7, .inl (cA 0, 60, .inl (fun _ => 0))), (a15, .inl (cA 0, 60, .inl (fun _ => 0))), (a29, .inl (cA 0, 320, .inl (fun _ => 0))), (a37, .inl (cA 0, 32, .inl (fun _ => 0))), (a45, .inl (cA 0, 32, .inl (fun _ => 0))), (a53, .inl (cA 0, 33, .inl (fun _ => 0))), (a61, .inl (cA 0, 32, .inl (fun _ => 0)))]) (va_A [(h0, .inr (2, [.null, .null, .null, .int 0, .null, .null, .null, .null, .null, .int 0]))] sz)) 7 569 (va_A [(h0, .inr (2, [.null, .null, .null, .int 0, .null, .null, .null, .null, .null, .int 0]))] sz) := by
  refine Met.ofW (cc := cP_init) (maxL := 2) (ret := none) (by decide +kernel) rfl ?_
  intro p e s m args below meth c s₁ B hml hv
  obtain ⟨rfl, hsz, hP, hK, hD0⟩ := hv
  have hx := B.exec
  have hb := B.bytes
  have hr := B.returns
  have hts0 := atoms_spec (ws := Jvm.Cond.code yP_init cP_init 2 none :: tbl) B.pre
  have hts := fun w (h : w ∈ tbl) => hts0 w (List.mem_cons_of_mem _ h)
  have hown : s.vm.findClass "DieGraphs$Precedence" = some m.cls := findClass_of_methodNamed B.named
  have hlocks := B.notSynchronized
  have hinn : meth.name = "<init>" := (name_of_methodNamed B.named B.method).1
  subst hsz
  have hD := hD0.self (sz := s.heap.size)
  generalize hAe : va_A [(h0, .inr (2, [.null, .null, .null, .int 0, .null, .null, .null, .null, .null, .int 0]))] s.heap.size = A at hD ⊢
  have hA : ∀ q : Nat, s.heap.size ≤ q → A q := fun q h => by rw [← hAe]; exact Or.inr h
  have hS : va_S A s.heap s.heap [] := va_S.rf
  have hP : va_P D vwC [(h0, .inr (2, [.null, .null, .null, .int 0, .null, .null, .null, .null, .null, .int 0]))] s.heap := hP
  have hl := lv_entry ([.ref h0, .ref a0]) (n := 2) (Nat.le_of_ble_eq_true rfl)
  rw [lg_entry_eq]
  generalize (lg_sl ([.ref h0, .ref a0]) ++ List.replicate (2 - (lg_sl ([.ref h0, .ref a0])).length) Slot.unset).toArray = ls at hl ⊢
  have hl : lv_has ls 2 [(0, .ref h0), (1, .ref a0)] := hl
  refine lv_aload_n hx hb dIP_0 rfl (lv_at hl 0 rfl) ?_
  refine W.objInit hx hb hown (hts (.methodLink "DieGraphs$Precedence" 3 objectInit) (tb 115 (by decide +kernel) (by decide +kernel))) (hts _ wOM) (hts _ wOI) rfl (by rw [hml]; exact hl.1) rfl dIP_1 (Nat.le_of_ble_eq_true rfl) (Nat.le_of_ble_eq_true rfl) ?_
  refine W.eq (g2 := F0 m 4 ls []) rfl ?_
  refine lv_aload_n hx hb dIP_4 rfl (lv_at hl 0 rfl) ?_
  refine lv_bipush (v := 60) hx hb dIP_5 (by decide +kernel) ?_
  refine nwA (atype := .int) (t := 0) (N' := 60) (a0 := (60, .inl (fun _ => 0))) t_int b_int hx hb (hts (.arrayClass .int) (tb 92 (by decide +kernel) (by decide +kernel))) rfl hK hP hD hS hA (fun _ => rfl) (by decide +kernel) (by decide +kernel) (by decide +kernel) (Nat.le_of_ble_eq_true rfl) (Nat.le_of_ble_eq_true rfl) dIP_7 (fun a7 H hP hD hS => ?_)
  have hP : va_P D vwC [(h0, .inr (2, [.null, .null, .null, .int 0, .null, .null, .null, .null, .null, .int 0])), (a7, .inl (cA 0, 60, .inl (fun _ => 0)))] H := hP
  have hD : va_D A [(h0, .inr (2, [.null, .null, .null, .int 0, .null, .null, .null, .null, .null, .int 0])), (a7, .inl (cA 0, 60, .inl (fun _ => 0)))] := hD
  refine W.widen (k := 1) (n := 60) (Nat.le_of_ble_eq_true rfl) (Nat.le_of_ble_eq_true rfl) ?_
  refine va_putF (D := D) (ci := 2) (v := .ref a7) (ty := .array .int) (C := RX2) (T := TX2) (N := 10) hx hb hts (mm_cls_ok 2 _ _ _ rfl).1 tyX2 tyX2_ok nmX2 hown hK hP hD hS 0 rfl rfl 1 (by decide +kernel) (hts (.fieldLink "DieGraphs$Precedence" 9 "DieGraphs$Precedence" "rowBefore" "[I") (tb 117 (by decide +kernel) (by decide +kernel))) (fun _ h9 => h9) rfl hinn rfl (by decide +kernel) rfl rfl (Nat.le_of_ble_eq_true rfl) dIP_9 (fun H locs hP hD hS => ?_)
  have hP : va_P D vwC [(h0, .inr (2, [.null, .ref a7, .null, .int 0, .null, .null, .null, .null, .null, .int 0])), (a7, .inl (cA 0, 60, .inl (fun _ => 0)))] H := hP
  have hD : va_D A [(h0, .inr (2, [.null, .ref a7, .null, .int 0, .null, .null, .null, .null, .null, .int 0])), (a7, .inl (cA 0, 60, .inl (fun _ => 0)))] := hD
  refine lv_aload_n hx hb dIP_12 rfl (lv_at hl 0 rfl) ?_
  refine lv_bipush (v := 60) hx hb dIP_13 (by decide +kernel) ?_
  refine nwA (atype := .int) (t := 0) (N' := 60) (a0 := (60, .inl (fun _ => 0))) t_int b_int hx hb (hts (.arrayClass .int) (tb 92 (by decide +kernel) (by decide +kernel))) rfl hK hP hD hS hA (fun _ => rfl) (by decide +kernel) (by decide +kernel) (by decide +kernel) (Nat.le_of_ble_eq_true rfl) (Nat.le_of_ble_eq_true rfl) dIP_15 (fun a15 H hP hD hS => ?_)
  have hP : va_P D vwC [(h0, .inr (2, [.null, .ref a7, .null, .int 0, .null, .null, .null, .null, .null, .int 0])), (a7, .inl (cA 0, 60, .inl (fun _ => 0))), (a15, .inl (cA 0, 60, .inl (fun _ => 0)))] H := hP
  have hD : va_D A [(h0, .inr (2, [.null, .ref a7, .null, .int 0, .null, .null, .null, .null, .null, .int 0])), (a7, .inl (cA 0, 60, .inl (fun _ => 0))), (a15, .inl (cA 0, 60, .inl (fun _ => 0)))] := hD
  refine W.widen (k := 2) (n := 120) (Nat.le_of_ble_eq_true rfl) (Nat.le_of_ble_eq_true rfl) ?_
  refine va_putF (D := D) (ci := 2) (v := .ref a15) (ty := .array .int) (C := RX2) (T := TX2) (N := 10) hx hb hts (mm_cls_ok 2 _ _ _ rfl).1 tyX2 tyX2_ok nmX2 hown hK hP hD hS 0 rfl rfl 2 (by decide +kernel) (hts (.fieldLink "DieGraphs$Precedence" 15 "DieGraphs$Precedence" "rowAfter" "[I") (tb 118 (by decide +kernel) (by decide +kernel))) (fun _ h9 => h9) rfl hinn rfl (by decide +kernel) rfl rfl (Nat.le_of_ble_eq_true rfl) dIP_17 (fun H locs hP hD hS => ?_)
  have hP : va_P D vwC [(h0, .inr (2, [.null, .ref a7, .ref a15, .int 0, .null, .null, .null, .null, .null, .int 0])), (a7, .inl (cA 0, 60, .inl (fun _ => 0))), (a15, .inl (cA 0, 60, .inl (fun _ => 0)))] H := hP
  have hD : va_D A [(h0, .inr (2, [.null, .ref a7, .ref a15, .int 0, .null, .null, .null, .null, .null, .int 0])), (a7, .inl (cA 0, 60, .inl (fun _ => 0))), (a15, .inl (cA 0, 60, .inl (fun _ => 0)))] := hD
  refine lv_aload_n hx hb dIP_20 rfl (lv_at hl 0 rfl) ?_
  refine lv_iconst (v := 0) hx hb dIP_21 (by decide +kernel) ?_
  refine va_put (D := D) (ci := 2) (v := .int 0) (ty := .int) (C := RX2) (T := TX2) (N := 10) hx hb hts (mm_cls_ok 2 _ _ _ rfl).1 tyX2 tyX2_ok nmX2 hown hK hP hD hS 0 rfl rfl 3 (by decide +kernel) (hts (.fieldLink "DieGraphs$Precedence" 18 "DieGraphs$Precedence" "rows" "I") (tb 119 (by decide +kernel) (by decide +kernel))) (fun _ h9 => h9) rfl (by decide +kernel) rfl rfl (Nat.le_of_ble_eq_true rfl) dIP_22 (fun H locs hP hD hS => ?_)
  have hP : va_P D vwC [(h0, .inr (2, [.null, .ref a7, .ref a15, .int 0, .null, .null, .null, .null, .null, .int 0])), (a7, .inl (cA 0, 60, .inl (fun _ => 0))), (a15, .inl (cA 0, 60, .inl (fun _ => 0)))] H := hP
  have hD : va_D A [(h0, .inr (2, [.null, .ref a7, .ref a15, .int 0, .null, .null, .null, .null, .null, .int 0])), (a7, .inl (cA 0, 60, .inl (fun _ => 0))), (a15, .inl (cA 0, 60, .inl (fun _ => 0)))] := hD
  refine lv_aload_n hx hb dIP_25 rfl (lv_at hl 0 rfl) ?_
  refine lv_sipush (v := 320) hx hb dIP_26 (by decide +kernel) ?_
  refine nwA (atype := .int) (t := 0) (N' := 320) (a0 := (320, .inl (fun _ => 0))) t_int b_int hx hb (hts (.arrayClass .int) (tb 92 (by decide +kernel) (by decide +kernel))) rfl hK hP hD hS hA (fun _ => rfl) (by decide +kernel) (by decide +kernel) (by decide +kernel) (Nat.le_of_ble_eq_true rfl) (Nat.le_of_ble_eq_true rfl) dIP_29 (fun a29 H hP hD hS => ?_)
  have hP : va_P D vwC [(h0, .inr (2, [.null, .ref a7, .ref a15, .int 0, .null, .null, .null, .null, .null, .int 0])), (a7, .inl (cA 0, 60, .inl (fun _ => 0))), (a15, .inl (cA 0, 60, .inl (fun _ => 0))), (a29, .inl (cA 0, 320, .inl (fun _ => 0)))] H := hP
  have hD : va_D A [(h0, .inr (2, [.null, .ref a7, .ref a15, .int 0, .null, .null, .null, .null, .null, .int 0])), (a7, .inl (cA 0, 60, .inl (fun _ => 0))), (a15, .inl (cA 0, 60, .inl (fun _ => 0))), (a29, .inl (cA 0, 320, .inl (fun _ => 0)))] := hD
  refine W.widen (k := 3) (n := 440) (Nat.le_of_ble_eq_true rfl) (Nat.le_of_ble_eq_true rfl) ?_
  refine va_putF (D := D) (ci := 2) (v := .ref a29) (ty := .array .int) (C := RX2) (T := TX2) (N := 10) hx hb hts (mm_cls_ok 2 _ _ _ rfl).1 tyX2 tyX2_ok nmX2 hown hK hP hD hS 0 rfl rfl 4 (by decide +kernel) (hts (.fieldLink "DieGraphs$Precedence" 22 "DieGraphs$Precedence" "partners" "[I") (tb 120 (by decide +kernel) (by decide +kernel))) (fun _ h9 => h9) rfl hinn rfl (by decide +kernel) rfl rfl (Nat.le_of_ble_eq_true rfl) dIP_31 (fun H locs hP hD hS => ?_)
  have hP : va_P D vwC [(h0, .inr (2, [.null, .ref a7, .ref a15, .int 0, .ref a29, .null, .null, .null, .null, .int 0])), (a7, .inl (cA 0, 60, .inl (fun _ => 0))), (a15, .inl (cA 0, 60, .inl (fun _ => 0))), (a29, .inl (cA 0, 320, .inl (fun _ => 0)))] H := hP
  have hD : va_D A [(h0, .inr (2, [.null, .ref a7, .ref a15, .int 0, .ref a29, .null, .null, .null, .null, .int 0])), (a7, .inl (cA 0, 60, .inl (fun _ => 0))), (a15, .inl (cA 0, 60, .inl (fun _ => 0))), (a29, .inl (cA 0, 320, .inl (fun _ => 0)))] := hD
  refine lv_aload_n hx hb dIP_34 rfl (lv_at hl 0 rfl) ?_
  refine lv_bipush (v := 32) hx hb dIP_35 (by decide +kernel) ?_
  refine nwA (atype := .int) (t := 0) (N' := 32) (a0 := (32, .inl (fun _ => 0))) t_int b_int hx hb (hts (.arrayClass .int) (tb 92 (by decide +kernel) (by decide +kernel))) rfl hK hP hD hS hA (fun _ => rfl) (by decide +kernel) (by decide +kernel) (by decide +kernel) (Nat.le_of_ble_eq_true rfl) (Nat.le_of_ble_eq_true rfl) dIP_37 (fun a37 H hP hD hS => ?_)
  have hP : va_P D vwC [(h0, .inr (2, [.null, .ref a7, .ref a15, .int 0, .ref a29, .null, .null, .null, .null, .int 0])), (a7, .inl (cA 0, 60, .inl (fun _ => 0))), (a15, .inl (cA 0, 60, .inl (fun _ => 0))), (a29, .inl (cA 0, 320, .inl (fun _ => 0))), (a37, .inl (cA 0, 32, .inl (fun _ => 0)))] H := hP
  have hD : va_D A [(h0, .inr (2, [.null, .ref a7, .ref a15, .int 0, .ref a29, .null, .null, .null, .null, .int 0])), (a7, .inl (cA 0, 60, .inl (fun _ => 0))), (a15, .inl (cA 0, 60, .inl (fun _ => 0))), (a29, .inl (cA 0, 320, .inl (fun _ => 0))), (a37, .inl (cA 0, 32, .inl (fun _ => 0)))] := hD
  refine W.widen (k := 4) (n := 472) (Nat.le_of_ble_eq_true rfl) (Nat.le_of_ble_eq_true rfl) ?_
  refine va_putF (D := D) (ci := 2) (v := .ref a37) (ty := .array .int) (C := RX2) (T := TX2) (N := 10) hx hb hts (mm_cls_ok 2 _ _ _ rfl).1 tyX2 tyX2_ok nmX2 hown hK hP hD hS 0 rfl rfl 5 (by decide +kernel) (hts (.fieldLink "DieGraphs$Precedence" 25 "DieGraphs$Precedence" "next" "[I") (tb 121 (by decide +kernel) (by decide +kernel))) (fun _ h9 => h9) rfl hinn rfl (by decide +kernel) rfl rfl (Nat.le_of_ble_eq_true rfl) dIP_39 (fun H locs hP hD hS => ?_)
  have hP : va_P D vwC [(h0, .inr (2, [.null, .ref a7, .ref a15, .int 0, .ref a29, .ref a37, .null, .null, .null, .int 0])), (a7, .inl (cA 0, 60, .inl (fun _ => 0))), (a15, .inl (cA 0, 60, .inl (fun _ => 0))), (a29, .inl (cA 0, 320, .inl (fun _ => 0))), (a37, .inl (cA 0, 32, .inl (fun _ => 0)))] H := hP
  have hD : va_D A [(h0, .inr (2, [.null, .ref a7, .ref a15, .int 0, .ref a29, .ref a37, .null, .null, .null, .int 0])), (a7, .inl (cA 0, 60, .inl (fun _ => 0))), (a15, .inl (cA 0, 60, .inl (fun _ => 0))), (a29, .inl (cA 0, 320, .inl (fun _ => 0))), (a37, .inl (cA 0, 32, .inl (fun _ => 0)))] := hD
  refine lv_aload_n hx hb dIP_42 rfl (lv_at hl 0 rfl) ?_
  refine lv_bipush (v := 32) hx hb dIP_43 (by decide +kernel) ?_
  refine nwA (atype := .int) (t := 0) (N' := 32) (a0 := (32, .inl (fun _ => 0))) t_int b_int hx hb (hts (.arrayClass .int) (tb 92 (by decide +kernel) (by decide +kernel))) rfl hK hP hD hS hA (fun _ => rfl) (by decide +kernel) (by decide +kernel) (by decide +kernel) (Nat.le_of_ble_eq_true rfl) (Nat.le_of_ble_eq_true rfl) dIP_45 (fun a45 H hP hD hS => ?_)
  have hP : va_P D vwC [(h0, .inr (2, [.null, .ref a7, .ref a15, .int 0, .ref a29, .ref a37, .null, .null, .null, .int 0])), (a7, .inl (cA 0, 60, .inl (fun _ => 0))), (a15, .inl (cA 0, 60, .inl (fun _ => 0))), (a29, .inl (cA 0, 320, .inl (fun _ => 0))), (a37, .inl (cA 0, 32, .inl (fun _ => 0))), (a45, .inl (cA 0, 32, .inl (fun _ => 0)))] H := hP
  have hD : va_D A [(h0, .inr (2, [.null, .ref a7, .ref a15, .int 0, .ref a29, .ref a37, .null, .null, .null, .int 0])), (a7, .inl (cA 0, 60, .inl (fun _ => 0))), (a15, .inl (cA 0, 60, .inl (fun _ => 0))), (a29, .inl (cA 0, 320, .inl (fun _ => 0))), (a37, .inl (cA 0, 32, .inl (fun _ => 0))), (a45, .inl (cA 0, 32, .inl (fun _ => 0)))] := hD
  refine W.widen (k := 5) (n := 504) (Nat.le_of_ble_eq_true rfl) (Nat.le_of_ble_eq_true rfl) ?_
  refine va_putF (D := D) (ci := 2) (v := .ref a45) (ty := .array .int) (C := RX2) (T := TX2) (N := 10) hx hb hts (mm_cls_ok 2 _ _ _ rfl).1 tyX2 tyX2_ok nmX2 hown hK hP hD hS 0 rfl rfl 6 (by decide +kernel) (hts (.fieldLink "DieGraphs$Precedence" 28 "DieGraphs$Precedence" "later" "[I") (tb 122 (by decide +kernel) (by decide +kernel))) (fun _ h9 => h9) rfl hinn rfl (by decide +kernel) rfl rfl (Nat.le_of_ble_eq_true rfl) dIP_47 (fun H locs hP hD hS => ?_)
  have hP : va_P D vwC [(h0, .inr (2, [.null, .ref a7, .ref a15, .int 0, .ref a29, .ref a37, .ref a45, .null, .null, .int 0])), (a7, .inl (cA 0, 60, .inl (fun _ => 0))), (a15, .inl (cA 0, 60, .inl (fun _ => 0))), (a29, .inl (cA 0, 320, .inl (fun _ => 0))), (a37, .inl (cA 0, 32, .inl (fun _ => 0))), (a45, .inl (cA 0, 32, .inl (fun _ => 0)))] H := hP
  have hD : va_D A [(h0, .inr (2, [.null, .ref a7, .ref a15, .int 0, .ref a29, .ref a37, .ref a45, .null, .null, .int 0])), (a7, .inl (cA 0, 60, .inl (fun _ => 0))), (a15, .inl (cA 0, 60, .inl (fun _ => 0))), (a29, .inl (cA 0, 320, .inl (fun _ => 0))), (a37, .inl (cA 0, 32, .inl (fun _ => 0))), (a45, .inl (cA 0, 32, .inl (fun _ => 0)))] := hD
  refine lv_aload_n hx hb dIP_50 rfl (lv_at hl 0 rfl) ?_
  refine lv_bipush (v := 33) hx hb dIP_51 (by decide +kernel) ?_
  refine nwA (atype := .int) (t := 0) (N' := 33) (a0 := (33, .inl (fun _ => 0))) t_int b_int hx hb (hts (.arrayClass .int) (tb 92 (by decide +kernel) (by decide +kernel))) rfl hK hP hD hS hA (fun _ => rfl) (by decide +kernel) (by decide +kernel) (by decide +kernel) (Nat.le_of_ble_eq_true rfl) (Nat.le_of_ble_eq_true rfl) dIP_53 (fun a53 H hP hD hS => ?_)
  have hP : va_P D vwC [(h0, .inr (2, [.null, .ref a7, .ref a15, .int 0, .ref a29, .ref a37, .ref a45, .null, .null, .int 0])), (a7, .inl (cA 0, 60, .inl (fun _ => 0))), (a15, .inl (cA 0, 60, .inl (fun _ => 0))), (a29, .inl (cA 0, 320, .inl (fun _ => 0))), (a37, .inl (cA 0, 32, .inl (fun _ => 0))), (a45, .inl (cA 0, 32, .inl (fun _ => 0))), (a53, .inl (cA 0, 33, .inl (fun _ => 0)))] H := hP
  have hD : va_D A [(h0, .inr (2, [.null, .ref a7, .ref a15, .int 0, .ref a29, .ref a37, .ref a45, .null, .null, .int 0])), (a7, .inl (cA 0, 60, .inl (fun _ => 0))), (a15, .inl (cA 0, 60, .inl (fun _ => 0))), (a29, .inl (cA 0, 320, .inl (fun _ => 0))), (a37, .inl (cA 0, 32, .inl (fun _ => 0))), (a45, .inl (cA 0, 32, .inl (fun _ => 0))), (a53, .inl (cA 0, 33, .inl (fun _ => 0)))] := hD
  refine W.widen (k := 6) (n := 537) (Nat.le_of_ble_eq_true rfl) (Nat.le_of_ble_eq_true rfl) ?_
  refine va_putF (D := D) (ci := 2) (v := .ref a53) (ty := .array .int) (C := RX2) (T := TX2) (N := 10) hx hb hts (mm_cls_ok 2 _ _ _ rfl).1 tyX2 tyX2_ok nmX2 hown hK hP hD hS 0 rfl rfl 7 (by decide +kernel) (hts (.fieldLink "DieGraphs$Precedence" 31 "DieGraphs$Precedence" "towards" "[I") (tb 123 (by decide +kernel) (by decide +kernel))) (fun _ h9 => h9) rfl hinn rfl (by decide +kernel) rfl rfl (Nat.le_of_ble_eq_true rfl) dIP_55 (fun H locs hP hD hS => ?_)
  have hP : va_P D vwC [(h0, .inr (2, [.null, .ref a7, .ref a15, .int 0, .ref a29, .ref a37, .ref a45, .ref a53, .null, .int 0])), (a7, .inl (cA 0, 60, .inl (fun _ => 0))), (a15, .inl (cA 0, 60, .inl (fun _ => 0))), (a29, .inl (cA 0, 320, .inl (fun _ => 0))), (a37, .inl (cA 0, 32, .inl (fun _ => 0))), (a45, .inl (cA 0, 32, .inl (fun _ => 0))), (a53, .inl (cA 0, 33, .inl (fun _ => 0)))] H := hP
  have hD : va_D A [(h0, .inr (2, [.null, .ref a7, .ref a15, .int 0, .ref a29, .ref a37, .ref a45, .ref a53, .null, .int 0])), (a7, .inl (cA 0, 60, .inl (fun _ => 0))), (a15, .inl (cA 0, 60, .inl (fun _ => 0))), (a29, .inl (cA 0, 320, .inl (fun _ => 0))), (a37, .inl (cA 0, 32, .inl (fun _ => 0))), (a45, .inl (cA 0, 32, .inl (fun _ => 0))), (a53, .inl (cA 0, 33, .inl (fun _ => 0)))] := hD
  refine lv_aload_n hx hb dIP_58 rfl (lv_at hl 0 rfl) ?_
  refine lv_bipush (v := 32) hx hb dIP_59 (by decide +kernel) ?_
  refine nwA (atype := .int) (t := 0) (N' := 32) (a0 := (32, .inl (fun _ => 0))) t_int b_int hx hb (hts (.arrayClass .int) (tb 92 (by decide +kernel) (by decide +kernel))) rfl hK hP hD hS hA (fun _ => rfl) (by decide +kernel) (by decide +kernel) (by decide +kernel) (Nat.le_of_ble_eq_true rfl) (Nat.le_of_ble_eq_true rfl) dIP_61 (fun a61 H hP hD hS => ?_)
  have hP : va_P D vwC [(h0, .inr (2, [.null, .ref a7, .ref a15, .int 0, .ref a29, .ref a37, .ref a45, .ref a53, .null, .int 0])), (a7, .inl (cA 0, 60, .inl (fun _ => 0))), (a15, .inl (cA 0, 60, .inl (fun _ => 0))), (a29, .inl (cA 0, 320, .inl (fun _ => 0))), (a37, .inl (cA 0, 32, .inl (fun _ => 0))), (a45, .inl (cA 0, 32, .inl (fun _ => 0))), (a53, .inl (cA 0, 33, .inl (fun _ => 0))), (a61, .inl (cA 0, 32, .inl (fun _ => 0)))] H := hP
  have hD : va_D A [(h0, .inr (2, [.null, .ref a7, .ref a15, .int 0, .ref a29, .ref a37, .ref a45, .ref a53, .null, .int 0])), (a7, .inl (cA 0, 60, .inl (fun _ => 0))), (a15, .inl (cA 0, 60, .inl (fun _ => 0))), (a29, .inl (cA 0, 320, .inl (fun _ => 0))), (a37, .inl (cA 0, 32, .inl (fun _ => 0))), (a45, .inl (cA 0, 32, .inl (fun _ => 0))), (a53, .inl (cA 0, 33, .inl (fun _ => 0))), (a61, .inl (cA 0, 32, .inl (fun _ => 0)))] := hD
  refine W.widen (k := 7) (n := 569) (Nat.le_of_ble_eq_true rfl) (Nat.le_of_ble_eq_true rfl) ?_
  refine va_putF (D := D) (ci := 2) (v := .ref a61) (ty := .array .int) (C := RX2) (T := TX2) (N := 10) hx hb hts (mm_cls_ok 2 _ _ _ rfl).1 tyX2 tyX2_ok nmX2 hown hK hP hD hS 0 rfl rfl 8 (by decide +kernel) (hts (.fieldLink "DieGraphs$Precedence" 34 "DieGraphs$Precedence" "told" "[I") (tb 124 (by decide +kernel) (by decide +kernel))) (fun _ h9 => h9) rfl hinn rfl (by decide +kernel) rfl rfl (Nat.le_of_ble_eq_true rfl) dIP_63 (fun H locs hP hD hS => ?_)
  have hP : va_P D vwC [(h0, .inr (2, [.null, .ref a7, .ref a15, .int 0, .ref a29, .ref a37, .ref a45, .ref a53, .ref a61, .int 0])), (a7, .inl (cA 0, 60, .inl (fun _ => 0))), (a15, .inl (cA 0, 60, .inl (fun _ => 0))), (a29, .inl (cA 0, 320, .inl (fun _ => 0))), (a37, .inl (cA 0, 32, .inl (fun _ => 0))), (a45, .inl (cA 0, 32, .inl (fun _ => 0))), (a53, .inl (cA 0, 33, .inl (fun _ => 0))), (a61, .inl (cA 0, 32, .inl (fun _ => 0)))] H := hP
  have hD : va_D A [(h0, .inr (2, [.null, .ref a7, .ref a15, .int 0, .ref a29, .ref a37, .ref a45, .ref a53, .ref a61, .int 0])), (a7, .inl (cA 0, 60, .inl (fun _ => 0))), (a15, .inl (cA 0, 60, .inl (fun _ => 0))), (a29, .inl (cA 0, 320, .inl (fun _ => 0))), (a37, .inl (cA 0, 32, .inl (fun _ => 0))), (a45, .inl (cA 0, 32, .inl (fun _ => 0))), (a53, .inl (cA 0, 33, .inl (fun _ => 0))), (a61, .inl (cA 0, 32, .inl (fun _ => 0)))] := hD
  refine lv_aload_n hx hb dIP_66 rfl (lv_at hl 0 rfl) ?_
  refine lv_iconst (v := 0) hx hb dIP_67 (by decide +kernel) ?_
  refine va_put (D := D) (ci := 2) (v := .int 0) (ty := .int) (C := RX2) (T := TX2) (N := 10) hx hb hts (mm_cls_ok 2 _ _ _ rfl).1 tyX2 tyX2_ok nmX2 hown hK hP hD hS 0 rfl rfl 9 (by decide +kernel) (hts (.fieldLink "DieGraphs$Precedence" 37 "DieGraphs$Precedence" "toldLength" "I") (tb 125 (by decide +kernel) (by decide +kernel))) (fun _ h9 => h9) rfl (by decide +kernel) rfl rfl (Nat.le_of_ble_eq_true rfl) dIP_68 (fun H locs hP hD hS => ?_)
  have hP : va_P D vwC [(h0, .inr (2, [.null, .ref a7, .ref a15, .int 0, .ref a29, .ref a37, .ref a45, .ref a53, .ref a61, .int 0])), (a7, .inl (cA 0, 60, .inl (fun _ => 0))), (a15, .inl (cA 0, 60, .inl (fun _ => 0))), (a29, .inl (cA 0, 320, .inl (fun _ => 0))), (a37, .inl (cA 0, 32, .inl (fun _ => 0))), (a45, .inl (cA 0, 32, .inl (fun _ => 0))), (a53, .inl (cA 0, 33, .inl (fun _ => 0))), (a61, .inl (cA 0, 32, .inl (fun _ => 0)))] H := hP
  have hD : va_D A [(h0, .inr (2, [.null, .ref a7, .ref a15, .int 0, .ref a29, .ref a37, .ref a45, .ref a53, .ref a61, .int 0])), (a7, .inl (cA 0, 60, .inl (fun _ => 0))), (a15, .inl (cA 0, 60, .inl (fun _ => 0))), (a29, .inl (cA 0, 320, .inl (fun _ => 0))), (a37, .inl (cA 0, 32, .inl (fun _ => 0))), (a45, .inl (cA 0, 32, .inl (fun _ => 0))), (a53, .inl (cA 0, 33, .inl (fun _ => 0))), (a61, .inl (cA 0, 32, .inl (fun _ => 0)))] := hD
  refine lv_aload_n hx hb dIP_71 rfl (lv_at hl 0 rfl) ?_
  refine lv_aload_n hx hb dIP_72 rfl (lv_at hl 1 rfl) ?_
  refine va_putF (D := D) (ci := 2) (v := .ref a0) (ty := .object "DieGraphs$Coins") (C := RX2) (T := TX2) (N := 10) hx hb hts (mm_cls_ok 2 _ _ _ rfl).1 tyX2 tyX2_ok nmX2 hown hK hP hD hS 0 rfl rfl 0 (by decide +kernel) (hts (.fieldLink "DieGraphs$Precedence" 40 "DieGraphs$Precedence" "coins" "LDieGraphs$Coins;") (tb 116 (by decide +kernel) (by decide +kernel))) (fun _ h9 => h9) rfl hinn rfl (by decide +kernel) rfl rfl (Nat.le_of_ble_eq_true rfl) dIP_73 (fun H locs hP hD hS => ?_)
  have hP : va_P D vwC [(h0, .inr (2, [.ref a0, .ref a7, .ref a15, .int 0, .ref a29, .ref a37, .ref a45, .ref a53, .ref a61, .int 0])), (a7, .inl (cA 0, 60, .inl (fun _ => 0))), (a15, .inl (cA 0, 60, .inl (fun _ => 0))), (a29, .inl (cA 0, 320, .inl (fun _ => 0))), (a37, .inl (cA 0, 32, .inl (fun _ => 0))), (a45, .inl (cA 0, 32, .inl (fun _ => 0))), (a53, .inl (cA 0, 33, .inl (fun _ => 0))), (a61, .inl (cA 0, 32, .inl (fun _ => 0)))] H := hP
  have hD : va_D A [(h0, .inr (2, [.ref a0, .ref a7, .ref a15, .int 0, .ref a29, .ref a37, .ref a45, .ref a53, .ref a61, .int 0])), (a7, .inl (cA 0, 60, .inl (fun _ => 0))), (a15, .inl (cA 0, 60, .inl (fun _ => 0))), (a29, .inl (cA 0, 320, .inl (fun _ => 0))), (a37, .inl (cA 0, 32, .inl (fun _ => 0))), (a45, .inl (cA 0, 32, .inl (fun _ => 0))), (a53, .inl (cA 0, 33, .inl (fun _ => 0))), (a61, .inl (cA 0, 32, .inl (fun _ => 0)))] := hD
  have hP9 := hP.sub (ws' := [(h0, .inr (2, [.ref a0, .ref a7, .ref a15, .int 0, .ref a29, .ref a37, .ref a45, .ref a53, .ref a61, .int 0])), (a7, .inl (cA 0, 60, .inl (fun _ => 0))), (a15, .inl (cA 0, 60, .inl (fun _ => 0))), (a29, .inl (cA 0, 320, .inl (fun _ => 0))), (a37, .inl (cA 0, 32, .inl (fun _ => 0))), (a45, .inl (cA 0, 32, .inl (fun _ => 0))), (a53, .inl (cA 0, 33, .inl (fun _ => 0))), (a61, .inl (cA 0, 32, .inl (fun _ => 0)))]) [0, 1, 2, 3, 4, 5, 6, 7] rfl
  have hD9 := hD.sub (ws' := [(h0, .inr (2, [.ref a0, .ref a7, .ref a15, .int 0, .ref a29, .ref a37, .ref a45, .ref a53, .ref a61, .int 0])), (a7, .inl (cA 0, 60, .inl (fun _ => 0))), (a15, .inl (cA 0, 60, .inl (fun _ => 0))), (a29, .inl (cA 0, 320, .inl (fun _ => 0))), (a37, .inl (cA 0, 32, .inl (fun _ => 0))), (a45, .inl (cA 0, 32, .inl (fun _ => 0))), (a53, .inl (cA 0, 33, .inl (fun _ => 0))), (a61, .inl (cA 0, 32, .inl (fun _ => 0)))]) [0, 1, 2, 3, 4, 5, 6, 7] (by decide +kernel) rfl
  exact W.vret hx hb hr (fun t ht hW => ⟨⟨(), rfl, trivial, a7, a15, a29, a37, a45, a53, a61, by rw [ht]; exact hP9, hD9⟩, hS.F ht⟩) hS.2.2 dIP_76
