/-! ===== the law's own calls ===== -/
section MMJ
variable {l : Launch} {D : va_G} {cl : List vw_C} {ad : Nat → Nat} {cA : Nat → ClassId} {lay : List mm_Lay} {fx : mm_Fxs}
variable {p : Program} {e : Env} {R : Room} {s : State} {m : MethodId} {args : Array Value} {below : List Frame} {meth : Method} {c : Code} {cc : ByteArray} {nL : Nat} {A : Nat → Prop} {own : String} {tbl : List Jvm.Cond}
theorem mm_blindN {ncs : List (String × String)} {as : List Value} {hp : mm_Hp} {sz : Nat} : FrameBlind (mm_PcN D cl ad cA lay fx ncs as hp sz) := by
  intro a U g mk h
  exact ⟨mm_blind a U g mk h.1, fun q hq => va_Nc.moved (u := U) (U := U.calling g mk a) (Vm.Alike.refl U.vm) (h.2 q hq)⟩
/-- a static call of a method that catches -/
theorem mm_callSH {k : Nat} {y : MethodName} {bytes : ByteArray} {maxL : Nat} {ret : Option FieldType} {hh : List (Nat × Nat × Nat × Nat)} {ws : List Jvm.Cond} {rm : Nat → Room} {ct : mm_Ct} {ncs : List (String × String)} (hin : mm_In D cl cA fx p s m args c cc nL A own tbl) (hN : nNc ncs s) (hM : mm_MetH l D cl ad cA lay fx ncs y ws rm ct) (htx : ∀ as hp, ct.2.2.2.2.1 as hp = 0)
    (cw : vx_CSW R s args own k y bytes maxL ret hh ws (rm ct.2.2.1) ct.2.2.1 (ct.2.2.1 * 6) ct.1) : mm_callOk p l e R s m args below meth c cc nL ad D cl cA lay A s.heap true k ct := by
  intro pc ls as rest hp H locs cells slots Q hd hsz hrest hw hc hs hlen hpre k1 k2
  have hu : mm_u ct as hp = ct.2.2.1 := by
    unfold mm_u
    rw [htx]
  refine mm_run hin (as := as) (rest := rest) (a := (as.map (mm_V ad)).toArray) hw ?_ k1 k2
  rw [hu] at hc hs ⊢
  refine vx_runSX (As := as.map (mm_V ad)) hin.1 (hM as hp H.size hlen hpre) cw ⟨mm_blindN, fun U hU hW => ⟨mm_pre hin hw U hU hW, fun q hq => va_Nc.moved hW.alike (hN q hq)⟩⟩ rfl ?_ hsz ?_ (mm_w8 hrest) hd ⟨hc, hs⟩
  · rw [List.length_map]; exact hlen
  · simp [F0]
end MMJ
/-- a call is sound in the law's body, in the room R -/
def CallR (E : En) (R : Room) (st : Bool) (k : Nat) (ct : mm_Ct) : Prop := ∀ (p : Program) (e : Env) (s : State) (m : MethodId) (args : Array Value) (below : List Frame) (meth : Method) (c : Code) (cc : ByteArray) (nL : Nat) (A : Nat → Prop),
  mm_In E.2.1 vwC E.2.2.2.1 E.2.2.2.2 p s m args c cc nL A "DieGraphsLaw" tbl → nNc ncL s → mm_callOk p E.1 e R s m args below meth c cc nL E.2.2.1 E.2.1 vwC E.2.2.2.1 lay A s.heap st k ct
def CallsR (E : En) (R : Room) (cals : List (Nat × mm_Ct)) : Prop := ∀ (st : Bool) (k : Nat) (ct : mm_Ct), mm_look (cond st (2 * k + 1) (2 * k)) cals = some ct → CallR E R st k ct
theorem cr_nil {E : En} {R : Room} : CallsR E R [] := fun _ _ _ h => by cases h
theorem cr_v {E : En} {R : Room} {ct : mm_Ct} {cals : List (Nat × mm_Ct)} (k : Nat) (h : CallR E R false k ct) (r : CallsR E R cals) : CallsR E R ((2 * k, ct) :: cals) := by
  intro st k' ct' h'
  unfold mm_look at h'
  cases hb : Nat.beq (2 * k) (cond st (2 * k' + 1) (2 * k')) with
  | true =>
    rw [hb] at h'
    cases h'
    have h1 := Nat.eq_of_beq_eq_true hb
    cases st with
    | true => simp only [cond] at h1; omega
    | false =>
      simp only [cond] at h1
      have h2 : k = k' := by omega
      subst h2
      exact h
  | false =>
    rw [hb] at h'
    exact r st k' ct' h'
theorem cr_s {E : En} {R : Room} {ct : mm_Ct} {cals : List (Nat × mm_Ct)} (k : Nat) (h : CallR E R true k ct) (r : CallsR E R cals) : CallsR E R ((2 * k + 1, ct) :: cals) := by
  intro st k' ct' h'
  unfold mm_look at h'
  cases hb : Nat.beq (2 * k + 1) (cond st (2 * k' + 1) (2 * k')) with
  | true =>
    rw [hb] at h'
    cases h'
    have h1 := Nat.eq_of_beq_eq_true hb
    cases st with
    | true =>
      simp only [cond] at h1
      have h2 : k = k' := by omega
      subst h2
      exact h
    | false => simp only [cond] at h1; omega
  | false =>
    rw [hb] at h'
    exact r st k' ct' h'
theorem crV {E : En} {R : Room} {C : String} {k maxL d' n : Nat} {y : MethodName} {bytes : ByteArray} {ret : Option FieldType} {ct : mm_Ct} (hM : Mt E y bytes maxL ret d' ct) (j : Nat) (hj : isObj j C = true) (hthis : ∀ as hp, ct.2.2.2.1 as hp → ∃ as', as = .ref j :: as') (hR : d' + 1 ≤ R.frames ∧ 8 + (maxL + 11) + 33 * d' ≤ R.locals) (hn : ct.1 = n + 1)
    (hw : ∀ w ∈ wsV "DieGraphsLaw" k C y [] ++ [Jvm.Cond.code y bytes maxL ret], w ∈ tbl) (hy : y.cls = C ∧ y.cls ≠ "java/lang/invoke/MethodHandle" ∧ y.cls ≠ "java/lang/invoke/VarHandle" ∧ (parseMethodDescriptor y.desc).map (fun d => d.parameters.length) = some n) : CallR E R false k ct := by
  intro p e s m args below meth c cc nL A hin _
  refine mm_callV (C := C) (n := n) (bytes := bytes) (maxL := maxL) (ret := ret) hin hM (fun u' => ?_) hn (fun as hp h => ?_)
  · refine cwV n hin.1.2.2.2.2 ?_ rfl rfl rfl hy hR
    have h9 := tbl_code (ws := wsV "DieGraphsLaw" k C y []) hw
    simpa [wsV] using h9
  · obtain ⟨as', rfl⟩ := hthis as hp h
    obtain ⟨ci, fs, q, h1, h2, h3⟩ := isObj_spec hj
    exact ⟨j, as', ci, fs, q, rfl, h1, h2, h3⟩
theorem crH {E : En} {R : Room} {k maxL d' : Nat} {y : MethodName} {bytes : ByteArray} {hh : List (Nat × Nat × Nat × Nat)} {ct : mm_Ct} (hM : MtH E y bytes maxL hh d' ct) (htx : ∀ as hp, ct.2.2.2.2.1 as hp = 0) (hR : d' + 1 ≤ R.frames ∧ 8 + (maxL + 11) + 33 * d' ≤ R.locals)
    (hw : ∀ w ∈ ([.methodLink "DieGraphsLaw" k y, .static y, .initialized y.cls, Jvm.Cond.codeWith y bytes maxL (some .int) hh] : List Jvm.Cond), w ∈ tbl) (hy : y.cls ≠ "java/lang/invoke/MethodHandle" ∧ y.cls ≠ "java/lang/invoke/VarHandle" ∧ (parseMethodDescriptor y.desc).map (fun d => d.parameters.length) = some ct.1) : CallR E R true k ct := by
  intro p e s m args below meth c cc nL A hin hN
  refine mm_callSH (bytes := bytes) (maxL := maxL) (ret := some .int) (hh := hh) hin hN hM htx ?_
  refine vx_cwSW ct.1 hin.1.2.2.2.2 (ws' := tbl) ?_ rfl rfl rfl hy hR
  intro w h
  unfold va_wsS at h
  rcases List.mem_append.mp h with h | h
  · refine tbl_good w (hw w ?_)
    simp only [List.mem_cons, List.not_mem_nil, or_false] at h ⊢
    rcases h with h | h | h
    · simp [h]
    · simp [h]
    · simp [h]
  · rcases List.mem_cons.mp h with rfl | h
    · exact tbl_good _ (hw _ (by simp))
    · exact tbl_good w h
