/-! ===== the start (by wip/whole/gen9C.py) ===== -/
def hp0 : mm_Hp := (fun _ _ => 0, fun _ _ => 0)
theorem rel0 : Rel hp0 hp0 := by
  have z : (0 : Int32) = nI 0 := by decide +kernel
  refine ⟨⟨⟨0, by omega, z, z, fun k h => absurd h (by omega)⟩, fun k _ => ⟨Or.inl rfl, rfl⟩⟩, ⟨0, by omega, z, z, fun k h => absurd h (by omega)⟩, ⟨0, by omega, z, z, fun k h => absurd h (by omega)⟩, ⟨⟨0, by omega, z, z⟩, fun c h _ _ => ⟨Or.inl rfl, ?_⟩⟩, ⟨0, by omega, z, z, fun k h => absurd h (by omega)⟩, ⟨0, by omega, z, z, fun k h => absurd h (by omega)⟩⟩
  show nz 0 = qb 0 h
  rw [qb_0]
  exact nz_f.mpr rfl
def adL (b : Nat) (l : List Nat) (k : Nat) : Nat := cond (Nat.beq k 1000) b (l.getD k 0)
theorem kn_all {args : Array Value} {s : State} (hts : ∀ w ∈ tbl, w.before args s = true) : ∃ D : va_G, ∀ (k : Nat) (q : vw_C), vwC[k]? = some q → u_Kn s q.1 q.2.1 q.2.2 (D.1 k) (D.2 k) := by
  obtain ⟨c0, i0, h0⟩ := u_known (C := RX0) (T := TX0) (N := 3) (n := 3) hts (mm_cls_ok 0 _ _ _ rfl).1 (hts (.instantiable RX0 3) (tb 95 (by decide +kernel) (by decide +kernel)))
  obtain ⟨c1, i1, h1⟩ := u_known (C := RX1) (T := TX1) (N := 8) (n := 8) hts (mm_cls_ok 1 _ _ _ rfl).1 (hts (.instantiable RX1 8) (tb 62 (by decide +kernel) (by decide +kernel)))
  obtain ⟨c2, i2, h2⟩ := u_known (C := RX2) (T := TX2) (N := 10) (n := 10) hts (mm_cls_ok 2 _ _ _ rfl).1 (hts (.instantiable RX2 10) (tb 111 (by decide +kernel) (by decide +kernel)))
  obtain ⟨c3, i3, h3⟩ := u_known (C := RX3) (T := TX3) (N := 9) (n := 9) hts (mm_cls_ok 3 _ _ _ rfl).1 (hts (.instantiable RX3 9) (tb 148 (by decide +kernel) (by decide +kernel)))
  obtain ⟨c4, i4, h4⟩ := u_known (C := RX4) (T := TX4) (N := 5) (n := 5) hts (mm_cls_ok 4 _ _ _ rfl).1 (hts (.instantiable RX4 5) (tb 54 (by decide +kernel) (by decide +kernel)))
  obtain ⟨c5, i5, h5⟩ := u_known (C := RX5) (T := TX5) (N := 26) (n := 26) hts (mm_cls_ok 5 _ _ _ rfl).1 (hts (.instantiable RX5 26) (tb 697 (by decide +kernel) (by decide +kernel)))
  refine ⟨(fun k => [c0, c1, c2, c3, c4, c5].getD k c0, fun k => [i0, i1, i2, i3, i4, i5].getD k i0), ?_⟩
  intro k q hq
  match k, hq with
  | 0, hq => cases hq; exact h0
  | 1, hq => cases hq; exact h1
  | 2, hq => cases hq; exact h2
  | 3, hq => cases hq; exact h3
  | 4, hq => cases hq; exact h4
  | 5, hq => cases hq; exact h5
  | k + 6, hq => simp at hq
theorem ar_one {args : Array Value} {s : State} {ty : FieldType} (h : (Cond.arrayClass ty).before args s = true) (hR : ∀ x, s.vm.findClass ("[" ++ ty.toString) = some x → va_RA s x ty) : ∃ x, ArrOfT s x ty ∧ va_RA s x ty := by
  obtain ⟨c, k, comp, h1, h2, h3⟩ := Cond.arrayClass_spec h
  exact ⟨c, fun n z => ⟨fun k h => (by cases h), k, h2, comp, h3⟩, hR c h1⟩
theorem ar_all {args : Array Value} {s : State} (hts : ∀ w ∈ tbl, w.before args s = true) : ∃ cA : Nat → ClassId, ∀ (k : Nat) (q : ClassId × FieldType), (mm_tys cA)[k]? = some q → ArrOfT s q.1 q.2 ∧ va_RA s q.1 q.2 := by
  obtain ⟨c0, h0⟩ := ar_one (ty := .int) (hts (.arrayClass .int) (tb 92 (by decide +kernel) (by decide +kernel))) (fun _ h => h)
  obtain ⟨c1, h1⟩ := ar_one (ty := .boolean) (hts (.arrayClass .boolean) (tb 93 (by decide +kernel) (by decide +kernel))) (fun _ h => h)
  obtain ⟨c2, h2⟩ := ar_one (ty := .long) (hts (.arrayClass .long) (tb 938 (by decide +kernel) (by decide +kernel))) (fun _ h => h)
  refine ⟨fun k => [c0, c1, c2].getD k c0, ?_⟩
  intro k q hq
  match k, hq with
  | 0, hq => cases hq; exact h0
  | 1, hq => cases hq; exact h1
  | 2, hq => cases hq; exact h2
  | k + 3, hq => simp at hq
theorem strs_of {own : String} {args : Array Value} {s : State} : ∀ (G : List (Nat × String)), (∀ q ∈ G, (Cond.stringRef own q.1 q.2).before args s = true ∧ (Cond.exactly (.string own q.1) "java/lang/String").before args s = true) → ∃ fx : List (String × Nat × String × Nat), (∀ q ∈ G, ∃ sa, (own, q.1, q.2, sa) ∈ fx) ∧ ∀ q ∈ fx, vk_R q.1 q.2.1 q.2.2.1 q.2.2.2 s
  | [], _ => ⟨[], fun _ h => absurd h List.not_mem_nil, fun _ h => absurd h List.not_mem_nil⟩
  | g :: G, h => by
    obtain ⟨fx, h1, h2⟩ := strs_of G (fun q hq => h q (List.mem_cons_of_mem _ hq))
    obtain ⟨a, c, cell, k, q1, -⟩ := Cond.exactly_spec (h g List.mem_cons_self).2
    refine ⟨(own, g.1, g.2, a) :: fx, fun q hq => ?_, fun q hq => ?_⟩
    · rcases List.mem_cons.mp hq with rfl | hq
      · exact ⟨a, List.mem_cons_self⟩
      · obtain ⟨sa, h3⟩ := h1 q hq
        exact ⟨sa, List.mem_cons_of_mem _ h3⟩
    · rcases List.mem_cons.mp hq with rfl | hq
      · exact vk_R.of (h g List.mem_cons_self).1 q1
      · exact h2 q hq
theorem w_str : ∀ q ∈ strG, Jvm.Cond.stringRef RX4 q.1 q.2 ∈ lw_tbl := by decide +kernel
theorem w_ntA : ∀ w ∈ ntG, w ∈ lw_tbl := by decide +kernel
theorem w_ntB : ∀ w ∈ ntG, mm_nt w = true := by decide +kernel
theorem w_ntC : ∀ w ∈ ntG, w.onTables = true := by decide +kernel
/-- what the law's body stands on -/
theorem start_all {p : Program} {s : State} {m : MethodId} {meth : Method} {c : Code} {b L : Nat} {xs : Nat → Int32} (C0 : lw_At p s m meth c b L xs) : (∀ w ∈ tbl, w.before #[Value.ref b] s = true) ∧ ∃ (D : va_G) (cA : Nat → ClassId) (fx : mm_Fxs), va_K D vwC (mm_tys cA) s ∧ mm_Fx fx (fun q : Nat => s.heap.size ≤ q) s s.heap ∧ (∀ q ∈ strG, ∃ sa, (RX4, q.1, q.2, sa) ∈ fx.1) ∧ (∀ w ∈ ntG, w ∈ fx.2) ∧ nNc ncL s := by
  obtain ⟨hx, hb, hr, hml, hown, hts0, hX, hbl, hlocks, hgv⟩ := C0
  have hs := flat_of_before _ hgv
  have hts : ∀ w ∈ tbl, w.before #[Value.ref b] s = true := fun w h => hts0 w (List.mem_filter.mp h).1
  refine ⟨hts, ?_⟩
  obtain ⟨D, hKc⟩ := kn_all hts
  obtain ⟨cA, hKa⟩ := ar_all hts
  have hex : ∀ q ∈ strG, (Cond.exactly (.string RX4 q.1) "java/lang/String").before #[Value.ref b] s = true := by
    refine fun q hq => hs _ ?_
    revert q
    decide +kernel
  have hnc : ∀ q ∈ ncL, (Cond.not (.castable q.1 q.2)).before #[Value.ref b] s = true := by
    refine fun q hq => hs _ ?_
    revert q
    decide +kernel
  obtain ⟨fx, f1, f2⟩ := strs_of (own := RX4) strG (fun q hq => ⟨hts0 _ (w_str q hq), hex q hq⟩)
  have hA : ∀ a : Nat, a < s.heap.size → ¬ (fun q : Nat => s.heap.size ≤ q) a := fun _ h => Nat.not_le.mpr h
  have hi : (Cond.initialized Bundle.tN).before #[Value.ref b] s = true := hts0 _ (List.mem_of_getElem? (i := 45) (by decide +kernel))
  have z1 := vx_Zqof (C := Bundle.tN) (n := "UNASSIGNED_STACK") (d := Bundle.steD) (hts0 _ (List.mem_of_getElem? (i := 275) (by decide +kernel))) hi (hs _ (by decide +kernel)) hA
  have z2 := vx_Zqof (C := Bundle.tN) (n := "SUPPRESSED_SENTINEL") (d := Bundle.listD) (hts0 _ (List.mem_of_getElem? (i := 277) (by decide +kernel))) hi (hs _ (by decide +kernel)) hA
  exact ⟨D, cA, (fx, ntG), ⟨hKc, hKa⟩, ⟨z1, z2, f2, fun w hw => ⟨w_ntB w hw, va_Nw.of (w_ntC w hw) (hts0 w (w_ntA w hw))⟩⟩, f1, fun _ h => h, fun q hq => va_Nc.of (hnc q hq)⟩
