/-! THE CLAIM OUT OF ONE WALK OF THE LAW'S BODY. Your part is whole_start (and what it stands on); all else here is the same for every law, but numbers. -/
def R_law : String := "DieGraphsLaw"
def lw_P (b : Addr) (xs : List Int32) (args : Array Value) (s : State) : Prop := args = #[.ref b] ∧ s.IntsAt b xs ∧ xs.length ≤ 2560 ∧ (Jvm.Cond.and given_1 narrow_1).before args s = true
def lw_Q (_ : Array Value) (s : State) (o : Outcome) (t : State) : Prop := o = .returned (some (.int 1)) ∧ Framed s o t [] 1085 14009
def lw_Z (below : List Frame) (a : Array Value) (s : State) : State → Prop := fun t => ∃ o, t.status = .running ∧ Ended t below o ∧ lw_Q a s o t
/-- the law's own end, with 1 on the stack, nothing written that was there before, its room as the claim has it -/
theorem lw_ret {p : Program} {l : Launch} {e : Env} {s : State} {m : MethodId} {below : List Frame} {meth : Method} {c : Code} {b : Nat} (hx : p.tables.exec = Jvm.exec) (hb : c.code = code) (hr : meth.sig.returnType = ret) (hlocks : meth.locks = false) {pc : Nat} {H : Heap} {ls : Array Slot} (hdg : decode code pc = .ok (.ireturn, 1)) : W p l e room_1 s m #[Value.ref b] below meth c H [] 1085 14009 (lw_Z below #[Value.ref b] s) (F0 m pc ls [.int 1]) := by
  intro T hT X
  obtain ⟨fs, hret, hrun, hended, hW, hframe⟩ := X.leave (v := some (.int 1)) (hlocks := hlocks) (fun h => by rw [hr] at h; cases h)
  have hmeth' : T.vm.method? m = some meth := X.method'
  refine ⟨T.setFrames fs, ?_, .returned (some (.int 1)), hrun, hended, rfl, ⟨_, rfl⟩, hW, hframe⟩
  jvm_step X.here [X.here.top, hx, hb, hdg, hmeth', hr, ret, narrow_b1]
  (try refine ⟨rfl, ?_⟩); (try refine ⟨rfl, ?_⟩)
  first | (intro acts; rw [hret _ acts rfl rfl rfl]) | rw [hret _ _ rfl rfl rfl]
  exact Steps.refl _
/-- what holds at the law's entry: the machine, the code, the tables' words (any of lw_tbl by 'hts w (by decide +kernel)'), the script of L ints xs at the cell b, what the Statement gives of the start (any of its parts by flat_of_before) -/
def lw_At (p : Program) (s : State) (m : MethodId) (meth : Method) (c : Code) (b L : Nat) (xs : Nat → Int32) : Prop :=
  p.tables.exec = Jvm.exec ∧ c.code = code ∧ meth.sig.returnType = ret ∧ c.maxLocals = 7 ∧ s.vm.findClass R_law = some m.cls ∧ (∀ w ∈ lw_tbl, w.before #[Value.ref b] s = true) ∧ va_X b L xs s s.heap ∧ b < s.heap.size ∧ meth.locks = false ∧ (Jvm.Cond.and given_1 narrow_1).before #[Value.ref b] s = true
/-! ===== the law's loop ===== -/
section LAW
variable {E : En} {p : Program} {e : Env} {R : Room} {s : State} {m : MethodId} {b : Nat} {below : List Frame} {meth : Method} {c : Code} {A : Nat → Prop} {Q : State → Prop} {L : Nat} {xs : Nat → Int32}
/-- what holds in the law's body -/
def LwIn (E : En) (p : Program) (s : State) (m : MethodId) (b : Nat) (c : Code) (A : Nat → Prop) (L : Nat) (xs : Nat → Int32) : Prop :=
  mm_In E.2.1 vwC E.2.2.2.1 E.2.2.2.2 p s m #[Value.ref b] c code 7 A "DieGraphsLaw" tbl ∧ nNc ncL s ∧ mm_scOk E.2.2.1 A s.heap s (some (L, xs))
def WdL (E : En) (s : State) (A : Nat → Prop) (hp : mm_Hp) (H : Heap) (locs : List Loc) : Prop := mm_Wd E.2.1 vwC E.2.2.1 E.2.2.2.1 lay A s.heap hp H locs
theorem lawW {tab : mm_Tab} {cals : List (Nat × mm_Ct)} {n e0 : Nat} {x : Int32} {I : mm_Hp → Prop} {o5 o6 : Option Value} {hp : mm_Hp} {c0 s0 : Nat} (hin : LwIn E p s m b c A L xs) (htab : mm_tok code tab) (hcal : CallsR E R cals) (hRc : c0 + 1 ≤ R.cells) (hRs : s0 + 6 ≤ R.slots)
    (hwp : mm_wp (xxW (L, xs) tab cals) (bW e0 x I) n tab (LL x o5 o6) [] hp 0)
    (hcut : ∀ (hp' : mm_Hp) (H : Heap) (locs : List Loc) (ls : Array Slot) (o5 o6 : Option Value), I hp' → WdL E s A hp' H locs → mm_Ls E.2.2.1 ls (LL x o5 o6) → W p E.1 e R s m #[Value.ref b] below meth c H locs (c0 + 1) (s0 + 6) Q (F0 m e0 ls []))
    {H : Heap} {locs : List Loc} {ls : Array Slot} (hw : WdL E s A hp H locs) (hl : mm_Ls E.2.2.1 ls (LL x o5 o6)) : W p E.1 e R s m #[Value.ref b] below meth c H locs c0 s0 Q (F0 m (mm_pc tab) ls []) := by
  obtain ⟨h0, hN, hsc⟩ := hin
  have h9 := h0
  obtain ⟨⟨hx, hb, hml, hown, hts⟩, hK, hFx, hA⟩ := h9
  have hThr : mm_thrOk p E.1 e R s m #[Value.ref b] below meth c code 7 E.2.2.1 E.2.1 vwC E.2.2.2.1 lay A s.heap (fun _ _ _ => none) (fun _ _ => False) 1 c0 s0 Q := by
    intro k t d x pc ls hp' H locs b hth
    cases hth
  have hOut : mm_outOk p E.1 e R s m #[Value.ref b] below meth c E.2.2.1 E.2.1 vwC E.2.2.2.1 lay A s.heap (fun _ _ => none) (fun _ _ => False) 1 c0 s0 Q := by
    intro x pc ls st hp' H locs b q ce _ hT
    exact hT.elim
  have hHnd : mm_hndOk p E.1 e R s m #[Value.ref b] below meth c (fun _ _ => none) Q := by
    intro x pc h ls st H locs cells slots q ce hh9
    cases hh9
  have hRt : mm_retOk p E.1 e R s m #[Value.ref b] below meth c code E.2.2.1 E.2.1 vwC E.2.2.2.1 lay A s.heap (fun _ _ => False) 1 c0 s0 Q :=
    ⟨fun x pc ls hp' H locs b hd hR => hR.elim, fun pc ls hp' H locs b hd hR => hR.elim⟩
  have hCut : mm_cutOk p E.1 e R s m #[Value.ref b] below meth c 7 E.2.2.1 E.2.1 vwC E.2.2.2.1 lay A s.heap (kW e0 x I) 1 c0 s0 Q := by
    intro pc P L' ls' hp' H' locs' hPK hP hL hw' hl'
    obtain ⟨rfl, rfl⟩ := at1 hPK
    obtain ⟨⟨o5', o6', rfl⟩, hI⟩ := hP
    exact hcut hp' H' locs' ls' o5' o6' hI hw' hl'
  have hsnd := mm_sound (X := xxW (L, xs) tab cals) (own := "DieGraphsLaw") (Ts := tbl) (kb := 1) (B := bW e0 x I) (c0 := c0) (s0 := s0) (nL := 7) hx hb htab hts hown hK (fun k ci j h => by cases h) (fun k ci j h => by cases h) hsc (fun k v h => by cases h) rfl hRc (by omega) (fun x hp' hT => hT.elim) (fun st k ct' h => hcal st k ct' h p e s m _ below meth c code 7 A h0 hN) hThr hOut hHnd hRt hCut n
  exact hsnd tab (LL x o5 o6) [] hp 0 hwp (List.suffix_refl _) rfl (Nat.zero_le _) H locs ls hw hl
/-- the law goes on from the end of a round -/
def EndW (E : En) (p : Program) (e : Env) (R : Room) (s : State) (m : MethodId) (b : Nat) (below : List Frame) (meth : Method) (c : Code) (A : Nat → Prop) (Q : State → Prop) (x : Int32) (c1 s1 : Nat) : Prop :=
  ∀ (hp : mm_Hp) (H : Heap) (locs : List Loc) (ls : Array Slot) (o5 o6 : Option Value), Rel hp hp → WdL E s A hp H locs → mm_Ls E.2.2.1 ls (LL x o5 o6) → W p E.1 e R s m #[Value.ref b] below meth c H locs c1 s1 Q (F0 m 1301 ls [])
theorem caseW {tab : mm_Tab} {cals : List (Nat × mm_Ct)} {n e0 : Nat} {x : Int32} {o5 o6 : Option Value} {hp : mm_Hp} {c0 s0 : Nat} (hin : LwIn E p s m b c A L xs) (htab : mm_tok code tab) (hcal : CallsR E R cals) (hRc : c0 + 1 ≤ R.cells) (hRs : s0 + 6 ≤ R.slots) (hEnd : EndW E p e R s m b below meth c A Q x (c0 + 1) (s0 + 6))
    (hgo : e0 = 1301 ∨ ∃ off : Int, decode code e0 = .ok (.goto off, 3) ∧ (e0 : Int) + off = ((1301 : Nat) : Int))
    (hwp : mm_wp (xxW (L, xs) tab cals) (bW e0 x (fun h => Rel h h)) n tab (LL x o5 o6) [] hp 0)
    {H : Heap} {locs : List Loc} {ls : Array Slot} (hw : WdL E s A hp H locs) (hl : mm_Ls E.2.2.1 ls (LL x o5 o6)) : W p E.1 e R s m #[Value.ref b] below meth c H locs c0 s0 Q (F0 m (mm_pc tab) ls []) := by
  refine lawW hin htab hcal hRc hRs hwp (fun hp' H' locs' ls' o5' o6' hI hw' hl' => ?_) hw hl
  rcases hgo with rfl | ⟨off, hd, ho⟩
  · exact hEnd hp' H' locs' ls' o5' o6' hI hw' hl'
  · exact lv_goto hin.1.1.1 hin.1.1.2.1 hd ho (hEnd hp' H' locs' ls' o5' o6' hI hw' hl')
end LAW
theorem th0 {j r : Nat} {P : mm_Hp → Prop} {tx : mm_Hp → Nat} {rv : mm_Hp → Int32} {sg : mm_Hp → mm_Hp} (as : List Value) (hp : mm_Hp) (h : (ct0 j r P tx rv sg).2.2.2.1 as hp) : ∃ as', as = .ref j :: as' := by
  obtain ⟨rfl, -⟩ := ct0_s h
  exact ⟨_, rfl⟩
theorem th1 {j r : Nat} {P : Int32 → mm_Hp → Prop} {tx : Int32 → mm_Hp → Nat} {rv : Int32 → mm_Hp → Int32} {sg : Int32 → mm_Hp → mm_Hp} (as : List Value) (hp : mm_Hp) (h : (ct1 j r P tx rv sg).2.2.2.1 as hp) : ∃ as', as = .ref j :: as' := by
  obtain ⟨a, rfl, -⟩ := ct1_s h
  exact ⟨_, rfl⟩
theorem th2 {j r : Nat} {P : Int32 → Int32 → mm_Hp → Prop} {tx : Int32 → Int32 → mm_Hp → Nat} {rv : Int32 → Int32 → mm_Hp → Int32} {sg : Int32 → Int32 → mm_Hp → mm_Hp} (as : List Value) (hp : mm_Hp) (h : (ct2 j r P tx rv sg).2.2.2.1 as hp) : ∃ as', as = .ref j :: as' := by
  obtain ⟨a, b, rfl, -⟩ := ct2_s h
  exact ⟨_, rfl⟩
theorem th3 {j r : Nat} {P : Int32 → Int32 → Int32 → mm_Hp → Prop} {tx : Int32 → Int32 → Int32 → mm_Hp → Nat} {rv : Int32 → Int32 → Int32 → mm_Hp → Int32} {sg : Int32 → Int32 → Int32 → mm_Hp → mm_Hp} (as : List Value) (hp : mm_Hp) (h : (ct3 j r P tx rv sg).2.2.2.1 as hp) : ∃ as', as = .ref j :: as' := by
  obtain ⟨a, b, c, rfl, -⟩ := ct3_s h
  exact ⟨_, rfl⟩
theorem th4 {j r : Nat} {P : Int32 → Int32 → Int32 → Int32 → mm_Hp → Prop} {tx : Int32 → Int32 → Int32 → Int32 → mm_Hp → Nat} {rv : Int32 → Int32 → Int32 → Int32 → mm_Hp → Int32} {sg : Int32 → Int32 → Int32 → Int32 → mm_Hp → mm_Hp} (as : List Value) (hp : mm_Hp) (h : (ct4 j r P tx rv sg).2.2.2.1 as hp) : ∃ as', as = .ref j :: as' := by
  obtain ⟨a, b, c, d, rfl, -⟩ := ct4_s h
  exact ⟨_, rfl⟩
theorem rT {E : En} (hE : EOk E) : CallR E room_1 false 84 sM_thrown := crV (C := RX5) (M_M_thrown hE) 25 (by decide +kernel) th0 (by decide +kernel) rfl wL_84 (by decide +kernel)
theorem rW_coin {E : En} (hE : EOk E) : CallsR E room_1 aW_coin := cr_s 78 (crH (M_L_coin hE) (fun _ _ => rfl) (by decide +kernel) wL_78 (by decide +kernel)) (cr_v 83 (crV (C := RX5) (M_M_coin hE) 25 (by decide +kernel) th3 (by decide +kernel) rfl wL_83 (by decide +kernel)) (cr_v 84 (rT hE) cr_nil))
theorem rW_doubt {E : En} (hE : EOk E) : CallsR E room_1 aW_doubt := cr_s 87 (crH (M_L_doubt hE) (fun _ _ => rfl) (by decide +kernel) wL_87 (by decide +kernel)) (cr_v 90 (crV (C := RX5) (M_M_doubt hE) 25 (by decide +kernel) th2 (by decide +kernel) rfl wL_90 (by decide +kernel)) (cr_v 84 (rT hE) cr_nil))
theorem rW_wear {E : En} (hE : EOk E) : CallsR E room_1 aW_wear := cr_s 91 (crH (M_L_wear hE) (fun _ _ => rfl) (by decide +kernel) wL_91 (by decide +kernel)) (cr_v 93 (crV (C := RX5) (M_M_wear hE) 25 (by decide +kernel) th3 (by decide +kernel) rfl wL_93 (by decide +kernel)) (cr_v 84 (rT hE) cr_nil))
theorem rW_row {E : En} (hE : EOk E) : CallsR E room_1 aW_row := cr_s 94 (crH (M_L_row hE) (fun _ _ => rfl) (by decide +kernel) wL_94 (by decide +kernel)) (cr_v 97 (crV (C := RX5) (M_M_row hE) 25 (by decide +kernel) th2 (by decide +kernel) rfl wL_97 (by decide +kernel)) (cr_v 84 (rT hE) cr_nil))
theorem rW_ring {E : En} (hE : EOk E) : CallsR E room_1 aW_ring := cr_s 98 (crH (M_L_ring hE) (fun _ _ => rfl) (by decide +kernel) wL_98 (by decide +kernel)) (cr_v 101 (crV (C := RX5) (M_M_ring hE) 25 (by decide +kernel) th1 (by decide +kernel) rfl wL_101 (by decide +kernel)) (cr_v 84 (rT hE) cr_nil))
theorem rW_order {E : En} (hE : EOk E) : CallsR E room_1 aW_order := cr_s 102 (crH (M_L_order hE) (fun _ _ => rfl) (by decide +kernel) wL_102 (by decide +kernel)) (cr_v 104 (crV (C := RX5) (M_M_order hE) 25 (by decide +kernel) th2 (by decide +kernel) rfl wL_104 (by decide +kernel)) (cr_v 84 (rT hE) cr_nil))
theorem rW_chain {E : En} (hE : EOk E) : CallsR E room_1 aW_chain := cr_s 105 (crH (M_L_chain hE) (fun _ _ => rfl) (by decide +kernel) wL_105 (by decide +kernel)) (cr_v 107 (crV (C := RX5) (M_M_chain hE) 25 (by decide +kernel) th1 (by decide +kernel) rfl wL_107 (by decide +kernel)) (cr_v 84 (rT hE) cr_nil))
theorem rG_chains {E : En} (hE : EOk E) : CallR E room_1 false 108 sG_chains := crV (C := RX4) (M_G_chains hE) 0 (by decide +kernel) th0 (by decide +kernel) rfl wL_108 (by decide +kernel)
theorem rM_chains {E : En} (hE : EOk E) : CallR E room_1 false 111 sM_chains := crV (C := RX5) (M_M_chains hE) 25 (by decide +kernel) th0 (by decide +kernel) rfl wL_111 (by decide +kernel)
theorem rW_dies {E : En} (hE : EOk E) : CallsR E room_1 aW_dies := cr_s 112 (crH (M_L_dies hE) (fun _ _ => rfl) (by decide +kernel) wL_112 (by decide +kernel)) (cr_v 114 (crV (C := RX5) (M_M_dies hE) 25 (by decide +kernel) th2 (by decide +kernel) rfl wL_114 (by decide +kernel)) (cr_v 84 (rT hE) cr_nil))
theorem rW_mean {E : En} (hE : EOk E) : CallsR E room_1 aW_mean := cr_s 115 (crH (M_L_mean hE) (fun _ _ => rfl) (by decide +kernel) wL_115 (by decide +kernel)) (cr_v 117 (crV (C := RX5) (M_M_mean hE) 25 (by decide +kernel) th2 (by decide +kernel) rfl wL_117 (by decide +kernel)) (cr_v 84 (rT hE) cr_nil))
theorem rW_hoard {E : En} (hE : EOk E) : CallsR E room_1 aW_hoard := cr_s 118 (crH (M_L_hoard hE) (fun _ _ => rfl) (by decide +kernel) wL_118 (by decide +kernel)) (cr_v 121 (crV (C := RX5) (M_M_hoard hE) 25 (by decide +kernel) th0 (by decide +kernel) rfl wL_121 (by decide +kernel)) (cr_v 84 (rT hE) cr_nil))
theorem rW_into {E : En} (hE : EOk E) : CallsR E room_1 aW_into := cr_s 122 (crH (M_L_into hE) (fun _ _ => rfl) (by decide +kernel) wL_122 (by decide +kernel)) (cr_v 124 (crV (C := RX5) (M_M_into hE) 25 (by decide +kernel) th2 (by decide +kernel) rfl wL_124 (by decide +kernel)) (cr_v 84 (rT hE) cr_nil))
theorem rW_overlap {E : En} (hE : EOk E) : CallsR E room_1 aW_overlap := cr_s 125 (crH (M_L_overlap hE) (fun _ _ => rfl) (by decide +kernel) wL_125 (by decide +kernel)) (cr_v 127 (crV (C := RX5) (M_M_overlap hE) 25 (by decide +kernel) th3 (by decide +kernel) rfl wL_127 (by decide +kernel)) (cr_v 84 (rT hE) cr_nil))
theorem rW_linked {E : En} (hE : EOk E) : CallsR E room_1 aW_linked := cr_s 128 (crH (M_L_linked hE) (fun _ _ => rfl) (by decide +kernel) wL_128 (by decide +kernel)) (cr_v 130 (crV (C := RX5) (M_M_linked hE) 25 (by decide +kernel) th2 (by decide +kernel) rfl wL_130 (by decide +kernel)) (cr_v 84 (rT hE) cr_nil))
theorem rW_unit {E : En} (hE : EOk E) : CallsR E room_1 aW_unit := cr_s 131 (crH (M_L_unit hE) (fun _ _ => rfl) (by decide +kernel) wL_131 (by decide +kernel)) (cr_v 134 (crV (C := RX5) (M_M_unit hE) 25 (by decide +kernel) th4 (by decide +kernel) rfl wL_134 (by decide +kernel)) (cr_v 84 (rT hE) cr_nil))
theorem rW_rule {E : En} (hE : EOk E) : CallsR E room_1 aW_rule := cr_s 135 (crH (M_L_rule hE) (fun _ _ => rfl) (by decide +kernel) wL_135 (by decide +kernel)) (cr_v 137 (crV (C := RX5) (M_M_rule hE) 25 (by decide +kernel) th0 (by decide +kernel) rfl wL_137 (by decide +kernel)) (cr_v 84 (rT hE) cr_nil))
theorem rW_type {E : En} (hE : EOk E) : CallsR E room_1 aW_type := cr_s 138 (crH (M_L_type hE) (fun _ _ => rfl) (by decide +kernel) wL_138 (by decide +kernel)) (cr_v 140 (crV (C := RX5) (M_M_type hE) 25 (by decide +kernel) th1 (by decide +kernel) rfl wL_140 (by decide +kernel)) (cr_v 84 (rT hE) cr_nil))
theorem rW_count {E : En} (hE : EOk E) : CallsR E room_1 aW_count := cr_s 141 (crH (M_L_count hE) (fun _ _ => rfl) (by decide +kernel) wL_141 (by decide +kernel)) (cr_v 143 (crV (C := RX5) (M_M_count hE) 25 (by decide +kernel) th1 (by decide +kernel) rfl wL_143 (by decide +kernel)) (cr_v 84 (rT hE) cr_nil))
