theorem dIH_0 : decode cH_init 0 = .ok (.aload_n 0, 1) := by decide +kernel
theorem dIH_1 : decode cH_init 1 = .ok (.invokespecial 3, 3) := by decide +kernel
theorem dIH_4 : decode cH_init 4 = .ok (.aload_n 0, 1) := by decide +kernel
theorem dIH_5 : decode cH_init 5 = .ok (.bipush 32, 2) := by decide +kernel
theorem dIH_7 : decode cH_init 7 = .ok (.newarray .int, 2) := by decide +kernel
theorem dIH_9 : decode cH_init 9 = .ok (.putfield 9, 3) := by decide +kernel
theorem dIH_12 : decode cH_init 12 = .ok (.aload_n 0, 1) := by decide +kernel
theorem dIH_13 : decode cH_init 13 = .ok (.iconst 0, 1) := by decide +kernel
theorem dIH_14 : decode cH_init 14 = .ok (.putfield 15, 3) := by decide +kernel
theorem dIH_17 : decode cH_init 17 = .ok (.aload_n 0, 1) := by decide +kernel
theorem dIH_18 : decode cH_init 18 = .ok (.aload_n 1, 1) := by decide +kernel
theorem dIH_19 : decode cH_init 19 = .ok (.putfield 19, 3) := by decide +kernel
theorem dIH_22 : decode cH_init 22 = .ok (.return_, 1) := by decide +kernel
theorem gI_H : GoodIn tbl (Jvm.Cond.code yH_init cH_init 2 none :: tbl) := fun w h => (List.mem_cons.mp h).elim (fun q => tbl_good w (by rw [q]; exact (tb 98 (by decide +kernel) (by decide +kernel)))) (tbl_good w)
set_option maxHeartbeats 4000000 in
set_option maxRecDepth 100000 in
theorem c_H_init (l : Launch) (D : va_G) (cA : Nat → ClassId) (h0 sz a0 : Nat) : Met l yH_init (Jvm.Cond.code yH_init cH_init 2 none :: tbl) ({ frames := 1, cells := 1, slots := 32, locals := 33 }) (va_Pc [.ref h0, .ref a0] (fun U => U.heap.size = sz ∧ va_P D vwC [(h0, .inr (0, [.null, .null, .int 0]))] U.heap ∧ va_K D vwC (mm_tys cA) U ∧ va_D (fun _ => True) [(h0, .inr (0, [.null, .null, .int 0]))])) (va_Qv (fun _ : Unit => True) (fun _ t => ∃ a7 : Nat, va_P D vwC [(h0, .inr (0, [.ref a0, .ref a7, .int 0])), (a7, .inl (cA 0, 32, .inl (fun _ => 0)))] t.heap ∧ va_D (va_A [(h0, .inr (0, [.null, .null, .int 0]))] sz) [(h0, .inr (0, [.ref a0, .ref a7, .int 0])), (a7, .inl (cA 0, 32, .inl (fun _ => 0)))]) (va_A [(h0, .inr (0, [.null, .null, .int 0]))] sz)) 1 32 (va_A [(h0, .inr (0, [.null, .null, .int 0]))] sz) := by
  refine Met.ofW (cc := cH_init) (maxL := 2) (ret := none) (by decide +kernel) rfl ?_
  intro p e s m args below meth c s₁ B hml hv
  obtain ⟨rfl, hsz, hP, hK, hD0⟩ := hv
  have hx := B.exec
  have hb := B.bytes
  have hr := B.returns
  have hts0 := atoms_spec (ws := Jvm.Cond.code yH_init cH_init 2 none :: tbl) B.pre
  have hts := fun w (h : w ∈ tbl) => hts0 w (List.mem_cons_of_mem _ h)
  have hown : s.vm.findClass "DieGraphs$Chains" = some m.cls := findClass_of_methodNamed B.named
  have hlocks := B.notSynchronized
  have hinn : meth.name = "<init>" := (name_of_methodNamed B.named B.method).1
  subst hsz
  have hD := hD0.self (sz := s.heap.size)
  generalize hAe : va_A [(h0, .inr (0, [.null, .null, .int 0]))] s.heap.size = A at hD ⊢
  have hA : ∀ q : Nat, s.heap.size ≤ q → A q := fun q h => by rw [← hAe]; exact Or.inr h
  have hS : va_S A s.heap s.heap [] := va_S.rf
  have hP : va_P D vwC [(h0, .inr (0, [.null, .null, .int 0]))] s.heap := hP
  have hl := lv_entry ([.ref h0, .ref a0]) (n := 2) (Nat.le_of_ble_eq_true rfl)
  rw [lg_entry_eq]
  generalize (lg_sl ([.ref h0, .ref a0]) ++ List.replicate (2 - (lg_sl ([.ref h0, .ref a0])).length) Slot.unset).toArray = ls at hl ⊢
  have hl : lv_has ls 2 [(0, .ref h0), (1, .ref a0)] := hl
  refine lv_aload_n hx hb dIH_0 rfl (lv_at hl 0 rfl) ?_
  refine W.objInit hx hb hown (hts (.methodLink "DieGraphs$Chains" 3 objectInit) (tb 99 (by decide +kernel) (by decide +kernel))) (hts _ wOM) (hts _ wOI) rfl (by rw [hml]; exact hl.1) rfl dIH_1 (Nat.le_of_ble_eq_true rfl) (Nat.le_of_ble_eq_true rfl) ?_
  refine W.eq (g2 := F0 m 4 ls []) rfl ?_
  refine lv_aload_n hx hb dIH_4 rfl (lv_at hl 0 rfl) ?_
  refine lv_bipush (v := 32) hx hb dIH_5 (by decide +kernel) ?_
  refine nwA (atype := .int) (t := 0) (N' := 32) (a0 := (32, .inl (fun _ => 0))) t_int b_int hx hb (hts (.arrayClass .int) (tb 92 (by decide +kernel) (by decide +kernel))) rfl hK hP hD hS hA (fun _ => rfl) (by decide +kernel) (by decide +kernel) (by decide +kernel) (Nat.le_of_ble_eq_true rfl) (Nat.le_of_ble_eq_true rfl) dIH_7 (fun a7 H hP hD hS => ?_)
  have hP : va_P D vwC [(h0, .inr (0, [.null, .null, .int 0])), (a7, .inl (cA 0, 32, .inl (fun _ => 0)))] H := hP
  have hD : va_D A [(h0, .inr (0, [.null, .null, .int 0])), (a7, .inl (cA 0, 32, .inl (fun _ => 0)))] := hD
  refine W.widen (k := 1) (n := 32) (Nat.le_of_ble_eq_true rfl) (Nat.le_of_ble_eq_true rfl) ?_
  refine va_putF (D := D) (ci := 0) (v := .ref a7) (ty := .array .int) (C := RX0) (T := TX0) (N := 3) hx hb hts (mm_cls_ok 0 _ _ _ rfl).1 tyX0 tyX0_ok nmX0 hown hK hP hD hS 0 rfl rfl 1 (by decide +kernel) (hts (.fieldLink "DieGraphs$Chains" 9 "DieGraphs$Chains" "least" "[I") (tb 101 (by decide +kernel) (by decide +kernel))) (fun _ h9 => h9) rfl hinn rfl (by decide +kernel) rfl rfl (Nat.le_of_ble_eq_true rfl) dIH_9 (fun H locs hP hD hS => ?_)
  have hP : va_P D vwC [(h0, .inr (0, [.null, .ref a7, .int 0])), (a7, .inl (cA 0, 32, .inl (fun _ => 0)))] H := hP
  have hD : va_D A [(h0, .inr (0, [.null, .ref a7, .int 0])), (a7, .inl (cA 0, 32, .inl (fun _ => 0)))] := hD
  refine lv_aload_n hx hb dIH_12 rfl (lv_at hl 0 rfl) ?_
  refine lv_iconst (v := 0) hx hb dIH_13 (by decide +kernel) ?_
  refine va_put (D := D) (ci := 0) (v := .int 0) (ty := .int) (C := RX0) (T := TX0) (N := 3) hx hb hts (mm_cls_ok 0 _ _ _ rfl).1 tyX0 tyX0_ok nmX0 hown hK hP hD hS 0 rfl rfl 2 (by decide +kernel) (hts (.fieldLink "DieGraphs$Chains" 15 "DieGraphs$Chains" "struck" "I") (tb 102 (by decide +kernel) (by decide +kernel))) (fun _ h9 => h9) rfl (by decide +kernel) rfl rfl (Nat.le_of_ble_eq_true rfl) dIH_14 (fun H locs hP hD hS => ?_)
  have hP : va_P D vwC [(h0, .inr (0, [.null, .ref a7, .int 0])), (a7, .inl (cA 0, 32, .inl (fun _ => 0)))] H := hP
  have hD : va_D A [(h0, .inr (0, [.null, .ref a7, .int 0])), (a7, .inl (cA 0, 32, .inl (fun _ => 0)))] := hD
  refine lv_aload_n hx hb dIH_17 rfl (lv_at hl 0 rfl) ?_
  refine lv_aload_n hx hb dIH_18 rfl (lv_at hl 1 rfl) ?_
  refine va_putF (D := D) (ci := 0) (v := .ref a0) (ty := .object "DieGraphs$Coins") (C := RX0) (T := TX0) (N := 3) hx hb hts (mm_cls_ok 0 _ _ _ rfl).1 tyX0 tyX0_ok nmX0 hown hK hP hD hS 0 rfl rfl 0 (by decide +kernel) (hts (.fieldLink "DieGraphs$Chains" 19 "DieGraphs$Chains" "coins" "LDieGraphs$Coins;") (tb 100 (by decide +kernel) (by decide +kernel))) (fun _ h9 => h9) rfl hinn rfl (by decide +kernel) rfl rfl (Nat.le_of_ble_eq_true rfl) dIH_19 (fun H locs hP hD hS => ?_)
  have hP : va_P D vwC [(h0, .inr (0, [.ref a0, .ref a7, .int 0])), (a7, .inl (cA 0, 32, .inl (fun _ => 0)))] H := hP
  have hD : va_D A [(h0, .inr (0, [.ref a0, .ref a7, .int 0])), (a7, .inl (cA 0, 32, .inl (fun _ => 0)))] := hD
  have hP9 := hP.sub (ws' := [(h0, .inr (0, [.ref a0, .ref a7, .int 0])), (a7, .inl (cA 0, 32, .inl (fun _ => 0)))]) [0, 1] rfl
  have hD9 := hD.sub (ws' := [(h0, .inr (0, [.ref a0, .ref a7, .int 0])), (a7, .inl (cA 0, 32, .inl (fun _ => 0)))]) [0, 1] (by decide +kernel) rfl
  exact W.vret hx hb hr (fun t ht hW => ⟨⟨(), rfl, trivial, a7, by rw [ht]; exact hP9, hD9⟩, hS.F ht⟩) hS.2.2 dIH_22
