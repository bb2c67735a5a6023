/-! ===== contracts of the small machine ===== -/
/-- words that warming keeps, though no good ones -/
def mm_nt (w : Jvm.Cond) : Bool := match w with
  | .castable _ _ => true
  | .declares _ => true
  | .methodLinkNest _ _ _ _ => true
  | _ => false
theorem mm_nt_at {w : Jvm.Cond} (h : mm_nt w = true) {s U : State} (hW : s.WarmedH U.vm) (hZ : va_Nw w s) : va_Nw w U := by
  unfold mm_nt at h
  split at h
  · rename_i ca cb
    have h1 : (Jvm.Cond.castable ca cb).before #[] (s.setVm U.vm) = true := by
      rw [Jvm.Cond.castable_setVm hW.alike]
      exact hZ
    exact va_tabs rfl (rfl : (s.setVm U.vm).vm = U.vm) h1
  · rename_i ca
    have h1 : (Jvm.Cond.declares ca).before #[] (s.setVm U.vm) = true := by
      rw [Jvm.Cond.declares_setVm hW.alike]
      exact hZ
    exact va_tabs rfl (rfl : (s.setVm U.vm).vm = U.vm) h1
  · exact va_Nw.warmM hW hZ
  · cases h
theorem mm_nt_same {w : Jvm.Cond} (h : mm_nt w = true) {u U : State} (hv : U.vm = u.vm) (hZ : va_Nw w u) : va_Nw w U := by
  unfold mm_nt at h
  split at h
  · exact va_tabs rfl hv.symm hZ
  · exact va_tabs rfl hv.symm hZ
  · exact va_tabs rfl hv.symm hZ
  · cases h
abbrev mm_Fxs : Type := List (String × Nat × String × Nat) × List Jvm.Cond
/-- what throws need of the start: two statics of Throwable, the texts; and words -/
def mm_Fx (fx : mm_Fxs) (A : Nat → Prop) (U : State) (H : Heap) : Prop := vx_Zq Bundle.tN "UNASSIGNED_STACK" Bundle.steD A U H ∧ vx_Zq Bundle.tN "SUPPRESSED_SENTINEL" Bundle.listD A U H ∧ (∀ q ∈ fx.1, vk_R q.1 q.2.1 q.2.2.1 q.2.2.2 U) ∧ ∀ w ∈ fx.2, mm_nt w = true ∧ va_Nw w U
theorem mm_Fx.at {fx : mm_Fxs} {A B : Nat → Prop} {s U : State} {H : Heap} (h : mm_Fx fx A s s.heap) (hW : s.WarmedH U.vm) (hk : ∀ q : Nat, q < s.heap.size → ¬ A q → H[q]? = s.heap[q]?) (hB : ∀ q, B q → A q) : mm_Fx fx B U H :=
  ⟨vx_Zq.narrow (vx_Zq.moved hW.alike (vx_Zq.kept h.1 hk)) hB, vx_Zq.narrow (vx_Zq.moved hW.alike (vx_Zq.kept h.2.1 hk)) hB, fun q hq => vk_R.warm hW (h.2.2.1 q hq), fun w hw => ⟨(h.2.2.2 w hw).1, mm_nt_at (h.2.2.2 w hw).1 hW (h.2.2.2 w hw).2⟩⟩
section MME
variable (l : Launch) (D : va_G) (cl : List vw_C) (ad : Nat → Nat) (cA : Nat → ClassId) (lay : List mm_Lay) (fx : mm_Fxs)
def mm_Pc (as : List Value) (hp : mm_Hp) (sz : Nat) : Array Value → State → Prop := va_Pc (as.map (mm_V ad)) (fun U => U.heap.size = sz ∧ va_P D cl (mm_ws ad cA lay hp) U.heap ∧ va_K D cl (mm_tys cA) U ∧ va_D (fun _ => True) (mm_ws ad cA lay hp) ∧ mm_Fx fx (va_A (mm_ws ad cA lay hp) sz) U U.heap)
def mm_Qc (ct : mm_Ct) (as : List Value) (hp : mm_Hp) (sz : Nat) : Array Value → State → Outcome → State → Prop := fun _ st o t =>
  ct.2.2.2.2.1 as hp = 0 ∧ o = .returned (cond (Nat.beq ct.2.1 0) none (some (.int (ct.2.2.2.2.2.1 as hp)))) ∧ va_P D cl (mm_ws ad cA lay (ct.2.2.2.2.2.2 as hp)) t.heap ∧ va_F (va_A (mm_ws ad cA lay hp) sz) st t
def mm_Xc (ct : mm_Ct) (as : List Value) (hp : mm_Hp) (sz : Nat) : String → State → State → Prop := fun E st t =>
  ∃ x, ct.2.2.2.2.1 as hp = x + 1 ∧ E = mm_kind x ∧ va_P D cl (mm_ws ad cA lay (ct.2.2.2.2.2.2 as hp)) t.heap ∧ va_F (va_A (mm_ws ad cA lay hp) sz) st t
/-- THE CONTRACT of y, as the small machine has it -/
def mm_Met (y : MethodName) (ws : List Jvm.Cond) (rm : Nat → Room) (ct : mm_Ct) : Prop := ∀ (as : List Value) (hp : mm_Hp) (sz : Nat), as.length = ct.1 → ct.2.2.2.1 as hp →
  vx_Met l y ws (rm (mm_u ct as hp)) (mm_Pc D cl ad cA lay fx as hp sz) (mm_Qc D cl ad cA lay ct as hp sz) (mm_Xc D cl ad cA lay ct as hp sz) (mm_u ct as hp) (mm_u ct as hp * 6) (va_A (mm_ws ad cA lay hp) sz)
variable (p : Program) (e : Env) (R : Room) (s : State) (m : MethodId) (args : Array Value) (below : List Frame) (meth : Method) (c : Code) (cc : ByteArray) (nL : Nat) (A : Nat → Prop)
/-- what holds inside a body -/
def mm_In (own : String) (tbl : List Jvm.Cond) : Prop := CallFix p m c cc nL s args tbl own ∧ va_K D cl (mm_tys cA) s ∧ mm_Fx fx A s s.heap ∧ ∀ q, s.heap.size ≤ q → A q
end MME
theorem mm_D {ad : Nat → Nat} {cA : Nat → ClassId} {lay : List mm_Lay} {hp hp' : mm_Hp} {A : Nat → Prop} (h : va_D A (mm_ws ad cA lay hp)) : va_D A (mm_ws ad cA lay hp') := by
  have hat : ∀ (k : Nat) (q : Nat × va_E), (mm_ws ad cA lay hp')[k]? = some q → ∃ q', (mm_ws ad cA lay hp)[k]? = some q' ∧ q'.1 = q.1 := by
    intro k q hq
    cases hl : lay[k]? with
    | none => rw [mm_ws_none hl] at hq; cases hq
    | some x =>
      rw [mm_ws_at hl] at hq
      cases hq
      exact ⟨_, mm_ws_at hl, rfl⟩
  refine ⟨fun i j p q hi hj hpq => ?_, fun k q hk => ?_⟩
  · obtain ⟨p', h1, h2⟩ := hat i p hi
    obtain ⟨q', h3, h4⟩ := hat j q hj
    exact h.1 i j p' q' h1 h3 (by rw [h2, h4]; exact hpq)
  · obtain ⟨q', h1, h2⟩ := hat k q hk
    rw [← h2]
    exact h.2 k q' h1
theorem mm_Asub {ad : Nat → Nat} {cA : Nat → ClassId} {lay : List mm_Lay} {hp : mm_Hp} {A : Nat → Prop} {sz sz0 : Nat} (h : va_D A (mm_ws ad cA lay hp)) (hA : ∀ q, sz0 ≤ q → A q) (hz : sz0 ≤ sz) : ∀ q, va_A (mm_ws ad cA lay hp) sz q → A q := by
  intro q hq
  rcases hq with ⟨k, x, hk⟩ | hq
  · exact h.2 k _ hk
  · exact hA q (Nat.le_trans hz hq)
theorem mm_blind {D : va_G} {cl : List vw_C} {ad : Nat → Nat} {cA : Nat → ClassId} {lay : List mm_Lay} {fx : mm_Fxs} {as : List Value} {hp : mm_Hp} {sz : Nat} : FrameBlind (mm_Pc D cl ad cA lay fx as hp sz) := by
  intro a U g mk h
  obtain ⟨h1, h2, h3, h4, h5, h6, h7, h8, h9⟩ := h
  exact ⟨h1, h2, h3, va_K.moved (u := U) (U := U.calling g mk a) (Vm.Alike.refl U.vm) h4, h5, vx_Zq.moved (u := U) (U := U.calling g mk a) (Vm.Alike.refl U.vm) h6, vx_Zq.moved (u := U) (U := U.calling g mk a) (Vm.Alike.refl U.vm) h7, fun q hq => vk_R.same (u := U) (U := U.calling g mk a) rfl (h8 q hq), fun w hw => ⟨(h9 w hw).1, mm_nt_same (h9 w hw).1 (u := U) (U := U.calling g mk a) rfl (h9 w hw).2⟩⟩
section MMF
variable {l : Launch} {D : va_G} {cl : List vw_C} {ad : Nat → Nat} {cA : Nat → ClassId} {lay : List mm_Lay} {fx : mm_Fxs}
variable {p : Program} {e : Env} {R : Room} {s : State} {m : MethodId} {args : Array Value} {below : List Frame} {meth : Method} {c : Code} {cc : ByteArray} {nL : Nat} {A : Nat → Prop} {own : String} {tbl : List Jvm.Cond}
/-- a call's start -/
theorem mm_pre (hin : mm_In D cl cA fx p s m args c cc nL A own tbl) {as : List Value} {hp : mm_Hp} {H : Heap} {locs : List Loc} (hw : mm_Wd D cl ad cA lay A s.heap hp H locs) :
    ∀ U : State, U.heap = H → s.WarmedH U.vm → mm_Pc D cl ad cA lay fx as hp H.size (as.map (mm_V ad)).toArray U := by
  intro U hU hW
  obtain ⟨-, hK, hF, hA⟩ := hin
  exact ⟨rfl, by rw [hU], by rw [hU]; exact hw.1, va_K.moved hW.alike hK, hw.2.1.weaken (fun _ _ _ _ => trivial), by rw [hU]; exact hF.at hW hw.2.2.2.1 (mm_Asub hw.2.1 hA hw.2.2.1)⟩
/-- the world behind a call -/
theorem mm_back (hin : mm_In D cl cA fx p s m args c cc nL A own tbl) {hp hp' : mm_Hp} {H H1 : Heap} {locs L : List Loc} {st₀ t : State} (hw : mm_Wd D cl ad cA lay A s.heap hp H locs) (h0 : st₀.heap = H) (e1 : H1 = t.heap)
    (hP : va_P D cl (mm_ws ad cA lay hp') t.heap) (hF : va_F (va_A (mm_ws ad cA lay hp) H.size) st₀ t) (hL : ∀ q ∈ L, va_A (mm_ws ad cA lay hp) H.size q.base) : mm_Wd D cl ad cA lay A s.heap hp' H1 (locs ++ L) := by
  obtain ⟨-, -, -, hA⟩ := hin
  have hsub := mm_Asub hw.2.1 hA hw.2.2.1
  subst e1
  obtain ⟨hz, hk⟩ := hF
  rw [h0] at hz hk
  refine ⟨hP, mm_D hw.2.1, Nat.le_trans hw.2.2.1 hz, fun q h1 h2 => ?_, fun q hq => ?_⟩
  · rw [hk q (Nat.lt_of_lt_of_le h1 hw.2.2.1) (fun z => h2 (hsub q z))]
    exact hw.2.2.2.1 q h1 h2
  · rcases List.mem_append.mp hq with h | h
    · exact hw.2.2.2.2 q h
    · exact hsub _ (hL q h)
theorem mm_run (hin : mm_In D cl cA fx p s m args c cc nL A own tbl) {ct : mm_Ct} {as rest : List Value} {hp : mm_Hp} {H : Heap} {locs : List Loc} {cells slots pc : Nat} {ls : Array Slot} {st0 : List Value} {Q : State → Prop} {a : Array Value} (hw : mm_Wd D cl ad cA lay A s.heap hp H locs)
    (hr : vx_Run p l e R s m args below meth c H locs cells slots (mm_u ct as hp) (mm_u ct as hp * 6) (F0 m pc ls st0) (rest.map (mm_V ad)) (mm_Qc D cl ad cA lay ct as hp H.size a) (mm_Xc D cl ad cA lay ct as hp H.size) (va_A (mm_ws ad cA lay hp) H.size))
    (k1 : ct.2.2.2.2.1 as hp = 0 → ∀ H' locs', mm_Wd D cl ad cA lay A s.heap (ct.2.2.2.2.2.2 as hp) H' locs' → W p l e R s m args below meth c H' locs' (cells + mm_u ct as hp) (slots + mm_u ct as hp * 6) Q (F0 m (pc + 3) ls ((cond (Nat.beq ct.2.1 0) rest (.int (ct.2.2.2.2.2.1 as hp) :: rest)).map (mm_V ad))))
    (k2 : ∀ x, ct.2.2.2.2.1 as hp = x + 1 → ∀ H' locs' q ce, mm_Wd D cl ad cA lay A s.heap (ct.2.2.2.2.2.2 as hp) H' locs' → mm_Ex s x H' q ce → vx_W p l e R s m args below meth c H' locs' (cells + mm_u ct as hp) (slots + mm_u ct as hp * 6) Q (F0 m pc ls (rest.map (mm_V ad))) q) :
    W p l e R s m args below meth c H locs cells slots Q (F0 m pc ls st0) := by
  intro T hT X
  rcases hr T hT X with ⟨v, st₀, t, T', L, h0, X', hL, e1, e2, ⟨htx, ho, hP, hF⟩, hgo⟩ | ⟨q, st₀, t, T', L, E, ce, h0, X', hL, e1, e2, ⟨x, htx, hE, hP, hF⟩, hce, hcv, hcl, hst⟩
  · obtain ⟨t2, a1, b1⟩ := k1 htx T'.heap (locs ++ L) (mm_back hin hw h0 e1 hP hF hL) T' rfl X'
    refine ⟨t2, hgo t2 ?_, b1⟩
    cases ho
    cases hb : Nat.beq ct.2.1 0 with
    | true => rw [hb] at a1; exact a1
    | false => rw [hb] at a1; exact a1
  · subst hE
    obtain ⟨t2, a1, b1⟩ := k2 x htx T'.heap (locs ++ L) q ce (mm_back hin hw h0 e1 hP hF hL) ⟨by rw [e1]; exact hce, hcv, hcl⟩ T' rfl X'
    exact ⟨t2, hst.trans a1, b1⟩
theorem mm_w8 {ad : Nat → Nat} {rest : List Value} {pc : Nat} {ls : Array Slot} {st : List Value} (h : rest.length ≤ 4) : 2 * (F0 m pc ls st).monitorRoom + ((rest.map (mm_V ad)).map fun v => v.category).sum ≤ 8 := by
  refine lv_room ?_
  have h1 : ∀ r : List Value, ((r.map (mm_V ad)).map fun v => v.category).sum ≤ 2 * r.length := by
    intro r
    induction r with
    | nil => simp
    | cons v r ih =>
      have := lv_cat (mm_V ad v)
      simp only [List.map_cons, List.sum_cons, List.length_cons]
      omega
  have := h1 rest
  omega
/-- a virtual call of a method of ours -/
theorem mm_callV {C : String} {k : Nat} {y : MethodName} {bytes : ByteArray} {maxL : Nat} {ret : Option FieldType} {ws : List Jvm.Cond} {rm : Nat → Room} {ct : mm_Ct} {n : Nat} (hin : mm_In D cl cA fx p s m args c cc nL A own tbl) (hM : mm_Met l D cl ad cA lay fx y ws rm ct) (cw : ∀ u, CallW R s args own C k y bytes maxL ret ws (rm u) u (u * 6) n) (hn : ct.1 = n + 1)
    (hthis : ∀ as hp, ct.2.2.2.1 as hp → ∃ (j : Nat) (as' : List Value) (ci : Nat) (fs : List (Option Nat)) (q : vw_C), as = .ref j :: as' ∧ lay[j]? = some (.inr (ci, fs)) ∧ cl[ci]? = some q ∧ q.1 = C) : mm_callOk p l e R s m args below meth c cc nL ad D cl cA lay A s.heap false k ct := by
  intro pc ls as rest hp H locs cells slots Q hd hsz hrest hw hc hs hlen hpre k1 k2
  obtain ⟨j, as', ci, fs, q, rfl, hj, hq, hC⟩ := hthis as hp hpre
  refine mm_run hin (as := .ref j :: as') (rest := rest) (a := (Value.ref (ad j) :: as'.map (mm_V ad)).toArray) hw ?_ k1 k2
  have he : (mm_ws ad cA lay hp)[j]? = some (ad j, .inr (ci, mm_fs ad (hp.1 j) fs)) := mm_ws_at hj
  subst hC
  refine vx_runV (As := as'.map (mm_V ad)) hin.1 (hM (.ref j :: as') hp H.size hlen hpre) (cw _) ⟨mm_blind, va_recv hin.2.1 hw.1 (ci := ci) (q0 := j) hq he, mm_pre hin hw⟩ rfl ?_ hsz ?_ (mm_w8 hrest) hd ⟨hc, hs⟩
  · rw [List.length_map]
    have : as'.length + 1 = ct.1 := hlen
    omega
  · simp [F0, mm_V]
/-- a static call -/
theorem mm_callS {k : Nat} {y : MethodName} {bytes : ByteArray} {maxL : Nat} {ret : Option FieldType} {ws : List Jvm.Cond} {rm : Nat → Room} {ct : mm_Ct} (hin : mm_In D cl cA fx p s m args c cc nL A own tbl) (hM : mm_Met l D cl ad cA lay fx y ws rm ct) (cw : ∀ u, CallB R s args own k y bytes maxL ret ws (rm u) u (u * 6) ct.1 ∧ (Jvm.Cond.static y).before args s = true) :
    mm_callOk p l e R s m args below meth c cc nL ad D cl cA lay A s.heap true k ct := by
  intro pc ls as rest hp H locs cells slots Q hd hsz hrest hw hc hs hlen hpre k1 k2
  refine mm_run hin (as := as) (rest := rest) (a := (as.map (mm_V ad)).toArray) hw ?_ k1 k2
  refine vx_runS (As := as.map (mm_V ad)) hin.1 (hM as hp H.size hlen hpre) (cw _) ⟨mm_blind, mm_pre hin hw⟩ rfl ?_ hsz ?_ (mm_w8 hrest) hd ⟨hc, hs⟩
  · rw [List.length_map]; exact hlen
  · simp [F0]
theorem mm_toMet {y : MethodName} {ws : List Jvm.Cond} {rm : Nat → Room} {ct : mm_Ct} (hM : mm_Met l D cl ad cA lay fx y ws rm ct) {as : List Value} {hp : mm_Hp} {sz : Nat} (hlen : as.length = ct.1) (hpre : ct.2.2.2.1 as hp) (h0 : ct.2.2.2.2.1 as hp = 0) :
    Met l y ws (rm (mm_u ct as hp)) (mm_Pc D cl ad cA lay fx as hp sz) (mm_Qc D cl ad cA lay ct as hp sz) (mm_u ct as hp) (mm_u ct as hp * 6) (va_A (mm_ws ad cA lay hp) sz) := by
  intro p e h1 h2 h3 s m args below h4 h5 h6 h7
  obtain ⟨n, o, a1, a2, a3, a4⟩ := hM as hp sz hlen hpre p e h1 h2 h3 s m args below h4 h5 h6 h7
  refine ⟨n, o, a1, a2, a3, ?_⟩
  rcases a4 with a4 | ⟨q, -, E, ce, L, ⟨x, hx, -⟩, -⟩
  · exact a4
  · rw [h0] at hx; cases hx
/-- a static call across a nest of a method that doesn't throw -/
theorem mm_callSN {k : Nat} {host : String} {y : MethodName} {bytes : ByteArray} {maxL : Nat} {ret : Option FieldType} {ws : List Jvm.Cond} {rm : Nat → Room} {ct : mm_Ct} (hin : mm_In D cl cA fx p s m args c cc nL A own tbl) (hM : mm_Met l D cl ad cA lay fx y ws rm ct) (cw : ∀ u, va_CN R s args own k y host bytes maxL ret ws (rm u) u (u * 6) ct.1) (hst : (Jvm.Cond.static y).before args s = true) (h0 : ∀ as hp, ct.2.2.2.1 as hp → ct.2.2.2.2.1 as hp = 0) :
    mm_callOk p l e R s m args below meth c cc nL ad D cl cA lay A s.heap true k ct := by
  intro pc ls as rest hp H locs cells slots Q hd hsz hrest hw hc hs hlen hpre k1 k2
  refine mm_run hin (as := as) (rest := rest) (a := (as.map (mm_V ad)).toArray) hw ?_ k1 k2
  have K := va_runSN (p := p) (e := e) (below := below) (meth := meth) (locs := locs) (cells := cells) (slots := slots) (rest := rest.map (mm_V ad)) (g := F0 m pc ls ((as.reverse ++ rest).map (mm_V ad))) (As := as.map (mm_V ad)) hin.1 (mm_toMet hM (sz := H.size) hlen hpre (h0 as hp hpre)) ⟨cw _, hst, trivial⟩ ⟨mm_blind, mm_pre hin hw⟩ rfl (by rw [List.length_map]; exact hlen) hsz (by simp [F0]) (mm_w8 hrest) hd ⟨hc, hs⟩
  exact fun T hT X => Or.inl (K T hT X)
end MMF
