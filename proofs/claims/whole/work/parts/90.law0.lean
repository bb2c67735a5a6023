/-! ===== contracts of methods that catch ===== -/
/-- which class is not which -/
def nNc (ncs : List (String × String)) (U : State) : Prop := ∀ q ∈ ncs, va_Nc q.1 q.2 U
section MMH
variable (l : Launch) (D : va_G) (cl : List vw_C) (ad : Nat → Nat) (cA : Nat → ClassId) (lay : List mm_Lay) (fx : mm_Fxs) (ncs : List (String × String))
def mm_PcN (as : List Value) (hp : mm_Hp) (sz : Nat) : Array Value → State → Prop := fun a U => mm_Pc D cl ad cA lay fx as hp sz a U ∧ nNc ncs U
/-- the contract of a method that catches all that is thrown: at most u cells are made -/
def mm_MetH (y : MethodName) (ws : List Jvm.Cond) (rm : Nat → Room) (ct : mm_Ct) : Prop := ∀ (as : List Value) (hp : mm_Hp) (sz : Nat), as.length = ct.1 → ct.2.2.2.1 as hp →
  vx_Met l y ws (rm ct.2.2.1) (mm_PcN D cl ad cA lay fx ncs as hp sz) (mm_Qc D cl ad cA lay ct as hp sz) (mm_Xc D cl ad cA lay ct as hp sz) ct.2.2.1 (ct.2.2.1 * 6) (va_A (mm_ws ad cA lay hp) sz)
end MMH
/-- what the tables must say where a method catches -/
def mm_hndSt (own : String) (tbl : List Jvm.Cond) (fx : mm_Fxs) (ncs : List (String × String)) (hh : List (Nat × Nat × Nat × Nat)) (hnd : Nat → Nat → Option Nat) : Prop := ∀ (pc x h : Nat), hnd pc x = some h → ∃ (pre : List ExceptionTableEntry) (z : ExceptionTableEntry) (suf : List ExceptionTableEntry) (nm : String), tableOf hh = pre ++ z :: suf ∧
  (∀ w ∈ pre, covers w pc = false ∨ (w.catchType ≠ 0 ∧ ∃ nm : String, Jvm.Cond.classLink own w.catchType nm ∈ tbl ∧ (mm_kind x, nm) ∈ ncs)) ∧ covers z pc = true ∧ z.catchType ≠ 0 ∧ z.handlerPc = h ∧ Jvm.Cond.classLink own z.catchType nm ∈ tbl ∧ Jvm.Cond.castable (mm_kind x) nm ∈ fx.2
section MMI
variable {l : Launch} {D : va_G} {cl : List vw_C} {ad : Nat → Nat} {cA : Nat → ClassId} {fx : mm_Fxs} {tbl : List Jvm.Cond} {ncs : List (String × String)}
set_option maxHeartbeats 4000000 in
theorem mm_metH {y : MethodName} {cc : ByteArray} {nL : Nat} {ret : Option FieldType} {hh : List (Nat × Nat × Nat × Nat)} {rm : Nat → Room} {ct : mm_Ct} {X : mm_Cx} {n : Nat} (hy : plainName y.cls = true) (htab : mm_tok cc X.1) (h0 : mm_pc X.1 = 0) (hsc : X.2.2.1 = none)
    (hhs : mm_hndSt y.cls tbl fx ncs hh X.2.2.2.2.2.2.2.1) (hf : mm_fldOk y.cls cl tbl X.2.2.2.1) (hpf : mm_pflOk y.cls cl tbl X.2.2.2.2.1) (hcst : ∀ k v, X.2.2.2.2.2.2.2.2 k = some v → Jvm.Cond.constant y.cls k v ∈ tbl) (hnt : ∀ k t d, X.2.2.2.2.2.2.1 k t d = none) (hrm : ∀ u, (rm u).cells = u ∧ (rm u).slots = u * 6)
    (hcal : ∀ (u : Nat) (p : Program) (e : Env) (s : State) (m : MethodId) (args : Array Value) (below : List Frame) (meth : Method) (c : Code) (A : Nat → Prop), mm_In D cl cA fx p s m args c cc nL A y.cls tbl → ∀ (st : Bool) (k : Nat) (ct' : mm_Ct), X.2.2.2.2.2.1 st k = some ct' → mm_callOk p l e (rm u) s m args below meth c cc nL ad D cl cA X.2.1 A s.heap st k ct')
    (hret : (ct.2.1 = 0 ∧ ret = none) ∨ (ct.2.1 = 1 ∧ ∃ ty, ret = some ty ∧ ∀ as hp, ct.2.2.2.1 as hp → narrow ty (.int (ct.2.2.2.2.2.1 as hp)) = .int (ct.2.2.2.2.2.1 as hp)))
    (hc1 : ∀ as hp, ct.2.2.2.1 as hp → ∀ v ∈ as, mm_c1 v = true) (hnl : ct.1 ≤ nL) (htx : ∀ as hp, ct.2.2.2.2.1 as hp = 0)
    (hent : ∀ as hp, as.length = ct.1 → ct.2.2.2.1 as hp → mm_wp X (fun _ => none, mm_Rt ct as hp, fun _ _ => False, ct.2.2.1) n X.1 (as.map some ++ List.replicate (nL - as.length) none) [] hp 0) :
    mm_MetH l D cl ad cA X.2.1 fx ncs y (Jvm.Cond.codeWith y cc nL ret hh :: tbl) rm ct := by
  intro as hp sz hlen hpre
  refine vx_ofWH (cc := cc) (maxL := nL) (ret := ret) (hh := hh) hy rfl ?_
  intro p e s m args below meth c s₁ Bd hml hv
  obtain ⟨⟨rfl, hsz, hP, hK, hD0, hFx⟩, hN⟩ := hv
  have hx := Bd.exec
  have hb := Bd.bytes
  have hr := Bd.returns
  have hts0 := atoms_spec (ws := Jvm.Cond.codeWith y cc nL ret hh :: tbl) Bd.pre
  have hts : ∀ w ∈ tbl, w.before (as.map (mm_V ad)).toArray s = true := fun w hw => hts0 w (List.mem_cons_of_mem _ hw)
  have htb := vx_table (x := y) Bd (hts0 _ List.mem_cons_self)
  have hown : s.vm.findClass y.cls = some m.cls := findClass_of_methodNamed Bd.named
  subst hsz
  have hD := hD0.self (sz := s.heap.size)
  generalize hAe : va_A (mm_ws ad cA X.2.1 hp) s.heap.size = A at hD hFx ⊢
  have hA : ∀ q : Nat, s.heap.size ≤ q → A q := fun q h => by rw [← hAe]; exact Or.inr h
  have hw : mm_Wd D cl ad cA X.2.1 A s.heap hp s.heap [] := ⟨hP, hD, va_S.rf⟩
  have hin : mm_In D cl cA fx p s m (as.map (mm_V ad)).toArray c cc nL A y.cls tbl := ⟨⟨hx, hb, hml, hown, hts⟩, hK, hFx, hA⟩
  generalize hQ : vx_MQ below (mm_Qc D cl ad cA X.2.1 ct as hp s.heap.size) (mm_Xc D cl ad cA X.2.1 ct as hp s.heap.size) (as.map (mm_V ad)).toArray s ct.2.2.1 (ct.2.2.1 * 6) A = Q
  have hRt : mm_retOk p l e (rm ct.2.2.1) s m (as.map (mm_V ad)).toArray below meth c cc ad D cl cA X.2.1 A s.heap (mm_Rt ct as hp) ct.2.2.1 0 0 Q := by
    refine ⟨fun x pc ls hp' H locs b hd hR hw' hb9 => ?_, fun pc ls hp' H locs b hd hR hw' hb9 => ?_⟩
    · obtain ⟨r1, r2, rfl⟩ := hR
      rcases hret with ⟨h3, -⟩ | ⟨h3, ty, rfl, hn⟩
      · rw [h3] at r2; cases r2
      · rw [h3] at r2
        cases r2
        rw [← hQ]
        refine W.widen (k := ct.2.2.1) (n := ct.2.2.1 * 6) (by omega) (by omega) (vx_ret ?_)
        exact W.zret hx hb hr (hn as hp hpre) (fun t ht hW => ⟨r1, by rw [h3]; rfl, by rw [ht]; exact hw'.1, by rw [hAe]; exact hw'.2.2.F ht⟩) hw'.2.2.2.2 hd
    · obtain ⟨r1, r2, rfl⟩ := hR
      rcases hret with ⟨h3, rfl⟩ | ⟨h3, ty, rfl, hn⟩
      · rw [← hQ]
        refine W.widen (k := ct.2.2.1) (n := ct.2.2.1 * 6) (by omega) (by omega) (vx_ret ?_)
        exact W.vret hx hb hr (fun t ht hW => ⟨r1, by rw [h3]; rfl, by rw [ht]; exact hw'.1, by rw [hAe]; exact hw'.2.2.F ht⟩) hw'.2.2.2.2 hd
      · rw [h3] at r2; cases r2
  have hOut : mm_outOk p l e (rm ct.2.2.1) s m (as.map (mm_V ad)).toArray below meth c ad D cl cA X.2.1 A s.heap X.2.2.2.2.2.2.2.1 (fun _ _ => False) ct.2.2.1 0 0 Q := by
    intro x pc ls st hp' H locs b q ce _ hT
    exact hT.elim
  have hThr : mm_thrOk p l e (rm ct.2.2.1) s m (as.map (mm_V ad)).toArray below meth c cc nL ad D cl cA X.2.1 A s.heap X.2.2.2.2.2.2.1 (fun _ _ => False) ct.2.2.1 0 0 Q := by
    intro k t d x pc ls hp' H locs b hth
    rw [hnt] at hth
    cases hth
  have hHnd : mm_hndOk p l e (rm ct.2.2.1) s m (as.map (mm_V ad)).toArray below meth c X.2.2.2.2.2.2.2.1 Q := by
    intro x pc h ls st H locs cells slots q ce hh9 hex kk
    obtain ⟨pre, z, suf, nm, h1, h2, h3, h4, h5, h6, h7⟩ := hhs pc x h hh9
    subst h5
    refine vx_catch (name := nm) (E := mm_kind x) (ce := ce) hown pre z suf (htb.trans h1) (fun w hw => ?_) h3 h4 (hts _ h6) (mm_nt_use (hFx.2.2.2 _ h7).1 (hFx.2.2.2 _ h7).2) hex.1 hex.2.1 hex.2.2 kk
    rcases h2 w hw with h | ⟨h8, nm', h9, h10⟩
    · exact Or.inl h
    · exact Or.inr ⟨h8, nm', hts _ h9, hN _ h10⟩
  have hsc9 : mm_scOk ad A s.heap s X.2.2.1 := by rw [hsc]; intro q hq; cases hq
  have hcut : mm_cutOk p l e (rm ct.2.2.1) s m (as.map (mm_V ad)).toArray below meth c nL ad D cl cA X.2.1 A s.heap (fun _ => none) ct.2.2.1 0 0 Q := by
    intro pc P L ls hp' H locs hPK
    cases hPK
  have hsnd := mm_sound (kb := ct.2.2.1) (B := ((fun _ => none : Nat → Option (mm_Loc → mm_Hp → Prop)), mm_Rt ct as hp, (fun _ _ => False : Nat → mm_Hp → Prop), ct.2.2.1)) hx hb htab hts hown hK hf hpf hsc9 hcst rfl (by rw [(hrm _).1]; omega) (by rw [(hrm _).2]; omega) (fun x hp' hT => hT.elim) (hcal ct.2.2.1 p e s m _ below meth c A hin) hThr hOut hHnd hRt hcut n
  have hl0 := lv_entry (as.map (mm_V ad)) (n := nL) (by rw [mm_sl_len _ (fun u hu => by
        obtain ⟨u', h1, rfl⟩ := List.mem_map.mp hu
        exact mm_c1V (hc1 as hp hpre u' h1)), List.length_map, hlen]; exact hnl)
  rw [lg_entry_eq]
  have hls0 := mm_Ls_entry (hc1 as hp hpre) (by rw [hlen]; exact hnl) hl0
  have K := hsnd X.1 _ [] hp 0 (hent as hp hlen hpre) (List.suffix_refl _) (by simp; omega) (Nat.zero_le _) s.heap [] _ hw hls0
  rw [h0] at K
  exact K
end MMI
