/-! ===== a contract out of what the small machine owes ===== -/
def mm_K (Inv : Nat → Option (mm_Loc → mm_Hp → Prop)) (ms : Nat → mm_Loc → mm_Hp → Nat) (v : Nat) : Nat → Option (mm_Loc → mm_Hp → Prop) := fun pc => match Inv pc with
  | some P => some (fun L hp => P L hp ∧ ms pc L hp < v)
  | none => none
def mm_Rt (ct : mm_Ct) (as : List Value) (hp : mm_Hp) : Option Int32 → mm_Hp → Prop := fun v hp' => ct.2.2.2.2.1 as hp = 0 ∧ v = cond (Nat.beq ct.2.1 0) none (some (ct.2.2.2.2.2.1 as hp)) ∧ hp' = ct.2.2.2.2.2.2 as hp
def mm_Tx (ct : mm_Ct) (as : List Value) (hp : mm_Hp) : Nat → mm_Hp → Prop := fun x hp' => ct.2.2.2.2.1 as hp = x + 1 ∧ hp' = ct.2.2.2.2.2.2 as hp
def mm_at (tab : mm_Tab) (pc : Nat) : mm_Tab := tab.dropWhile (fun q => !(Nat.beq q.1 pc))
theorem mm_at_pc {tab : mm_Tab} {pc : Nat} {q : Nat × Instr × Nat} {nx : mm_Tab} (h : mm_at tab pc = q :: nx) : q.1 = pc := by
  have h1 := List.head?_dropWhile_not (fun q : Nat × Instr × Nat => !(Nat.beq q.1 pc)) tab
  unfold mm_at at h
  rw [h] at h1
  simp at h1
  exact h1
theorem mm_args_in : ∀ (vs : List Value) (k : Nat), (∀ v ∈ vs, v.category = 1) → ∀ (i : Nat) (v : Value), vs[i]? = some v → (k + i, v) ∈ lv_args k vs
  | [], _, _, _, _, h => by simp at h
  | w :: vs, k, hc, 0, v, h => by
    simp at h
    subst h
    exact List.mem_cons_self
  | w :: vs, k, hc, i + 1, v, h => by
    have h1 : w.category = 1 := hc w List.mem_cons_self
    have h2 := mm_args_in vs (k + 1) (fun v hv => hc v (List.mem_cons_of_mem _ hv)) i v (by simpa using h)
    show (k + (i + 1), v) ∈ (k, w) :: lv_args (if w.category = 2 then k + 2 else k + 1) vs
    rw [if_neg (by omega)]
    refine List.mem_cons_of_mem _ ?_
    rw [show k + (i + 1) = k + 1 + i by omega]
    exact h2
theorem mm_sl_len : ∀ (vs : List Value), (∀ v ∈ vs, v.category = 1) → (lg_sl vs).length = vs.length
  | [], _ => rfl
  | w :: vs, hc => by
    have h1 : w.category = 1 := hc w List.mem_cons_self
    have h2 := mm_sl_len vs (fun v hv => hc v (List.mem_cons_of_mem _ hv))
    unfold lg_sl at h2 ⊢
    rw [List.flatMap_cons, List.length_append, h2, if_neg (by omega)]
    simp
    omega
theorem mm_Ls_entry {ad : Nat → Nat} {as : List Value} {nL : Nat} (hc : ∀ v ∈ as, mm_c1 v = true) (hn : as.length ≤ nL) {ls : Array Slot} (h : lv_has ls nL (lv_args 0 (as.map (mm_V ad)))) : mm_Ls ad ls (as.map some ++ List.replicate (nL - as.length) none) := by
  refine ⟨by rw [h.1]; simp; omega, h.2.1, fun i v hi => ?_⟩
  by_cases hlt : i < as.length
  · rw [List.getElem?_append_left (by simpa using hlt), List.getElem?_map] at hi
    cases hv : as[i]? with
    | none => rw [hv] at hi; cases hi
    | some w =>
      rw [hv] at hi
      cases hi
      refine ⟨hc v (List.mem_of_getElem? hv), ?_⟩
      have h2 := mm_args_in (as.map (mm_V ad)) 0 (fun u hu => by
        obtain ⟨u', h1, rfl⟩ := List.mem_map.mp hu
        exact mm_c1V (hc u' h1)) i (mm_V ad v) (by rw [List.getElem?_map, hv]; rfl)
      rw [Nat.zero_add] at h2
      exact h.2.2 _ h2
  · rw [List.getElem?_append_right (by simp; omega), List.getElem?_replicate] at hi
    split at hi <;> cases hi
/-- what the tables must say where a method throws -/
def mm_thrSt (own : String) (tbl : List Jvm.Cond) (fx : mm_Fxs) (thr : Nat → Nat → Nat → Option Nat) : Prop := ∀ (k t d x : Nat), thr k t d = some x → ∃ (text : String) (sa : Nat) (names : List String), (own, t, text, sa) ∈ fx.1 ∧ Bundle.fit (mm_kind x) = true ∧ (∀ n ∈ names, Bundle.fit n = true) ∧ names.length ≤ 2 ∧
  ∀ w ∈ Jvm.Cond.classLink own k (mm_kind x) :: Jvm.Cond.initialized (mm_kind x) :: vx_atS own d (mm_kind x) names, (w ∈ tbl ∨ w ∈ fx.2) ∧ vx_ot w = true
theorem mm_nt_use {w : Jvm.Cond} (h : mm_nt w = true) {U : State} {A : Array Value} (hZ : va_Nw w U) : w.before A U = true := by
  unfold mm_nt at h
  split at h
  · exact va_Nw.use rfl hZ
  · exact va_Nw.use rfl hZ
  · exact va_Nw.use rfl hZ
  · cases h
section MMG
variable {l : Launch} {D : va_G} {cl : List vw_C} {ad : Nat → Nat} {cA : Nat → ClassId} {fx : mm_Fxs} {tbl : List Jvm.Cond}
set_option maxHeartbeats 4000000 in
theorem mm_met {y : MethodName} {cc : ByteArray} {nL : Nat} {ret : Option FieldType} {rm : Nat → Room} {ct : mm_Ct} {X : mm_Cx} {n : Nat} (hy : plainName y.cls = true) (hst : l.stackTraces = false) (htab : mm_tok cc X.1) (h0 : mm_pc X.1 = 0) (hsc : X.2.2.1 = none) (hnh : ∀ pc x, X.2.2.2.2.2.2.2.1 pc x = none)
    (hf : mm_fldOk y.cls cl tbl X.2.2.2.1) (hpf : mm_pflOk y.cls cl tbl X.2.2.2.2.1) (hcst : ∀ k v, X.2.2.2.2.2.2.2.2 k = some v → Jvm.Cond.constant y.cls k v ∈ tbl) (hthS : mm_thrSt y.cls tbl fx X.2.2.2.2.2.2.1) (hrm : ∀ u, (rm u).cells = u ∧ (rm u).slots = u * 6) (hrx : (∀ k t d, X.2.2.2.2.2.2.1 k t d = none) ∨ ∀ u, 6 ≤ (rm u).frames ∧ 82 ≤ (rm u).locals)
    (hcal : ∀ (u : Nat) (p : Program) (e : Env) (s : State) (m : MethodId) (args : Array Value) (below : List Frame) (meth : Method) (c : Code) (A : Nat → Prop), mm_In D cl cA fx p s m args c cc nL A y.cls tbl → ∀ (st : Bool) (k : Nat) (ct' : mm_Ct), X.2.2.2.2.2.1 st k = some ct' → mm_callOk p l e (rm u) s m args below meth c cc nL ad D cl cA X.2.1 A s.heap st k ct')
    (hret : (ct.2.1 = 0 ∧ ret = none) ∨ (ct.2.1 = 1 ∧ ∃ ty, ret = some ty ∧ ∀ as hp, ct.2.2.2.1 as hp → narrow ty (.int (ct.2.2.2.2.2.1 as hp)) = .int (ct.2.2.2.2.2.1 as hp)))
    (hc1 : ∀ as hp, ct.2.2.2.1 as hp → ∀ v ∈ as, mm_c1 v = true) (hnl : ct.1 ≤ nL) (hun : ct.2.2.1 = 0) (Inv : List Value → mm_Hp → Nat → Option (mm_Loc → mm_Hp → Prop)) (ms : Nat → mm_Loc → mm_Hp → Nat)
    (hent : ∀ as hp, as.length = ct.1 → ct.2.2.2.1 as hp → mm_wp X (Inv as hp, mm_Rt ct as hp, mm_Tx ct as hp, ct.2.2.1) n X.1 (as.map some ++ List.replicate (nL - as.length) none) [] hp 0)
    (hinv : ∀ as hp, as.length = ct.1 → ct.2.2.2.1 as hp → ∀ pc P, Inv as hp pc = some P → ∀ L hp', P L hp' → L.length = nL → mm_wp X (mm_K (Inv as hp) ms (ms pc L hp'), mm_Rt ct as hp, mm_Tx ct as hp, ct.2.2.1) n (mm_at X.1 pc) L [] hp' 0) :
    mm_Met l D cl ad cA X.2.1 fx y (Jvm.Cond.code y cc nL ret :: tbl) rm ct := by
  intro as hp sz hlen hpre
  refine vx_ofW (cc := cc) (maxL := nL) (ret := ret) hy rfl ?_
  intro p e s m args below meth c s₁ Bd hml hnoEx hv
  obtain ⟨rfl, hsz, hP, hK, hD0, hFx⟩ := hv
  have hx := Bd.exec
  have hb := Bd.bytes
  have hr := Bd.returns
  have hts0 := atoms_spec (ws := Jvm.Cond.code y cc nL ret :: tbl) Bd.pre
  have hts : ∀ w ∈ tbl, w.before (as.map (mm_V ad)).toArray s = true := fun w hw => hts0 w (List.mem_cons_of_mem _ hw)
  have hown : s.vm.findClass y.cls = some m.cls := findClass_of_methodNamed Bd.named
  have hlocks := Bd.notSynchronized
  subst hsz
  have hD := hD0.self (sz := s.heap.size)
  generalize hAe : va_A (mm_ws ad cA X.2.1 hp) s.heap.size = A at hD hFx ⊢
  have hA : ∀ q : Nat, s.heap.size ≤ q → A q := fun q h => by rw [← hAe]; exact Or.inr h
  have hw : mm_Wd D cl ad cA X.2.1 A s.heap hp s.heap [] := ⟨hP, hD, va_S.rf⟩
  have hin : mm_In D cl cA fx p s m (as.map (mm_V ad)).toArray c cc nL A y.cls tbl := ⟨⟨hx, hb, hml, hown, hts⟩, hK, hFx, hA⟩
  generalize hu : mm_u ct as hp = u
  generalize hQ : vx_MQ below (mm_Qc D cl ad cA X.2.1 ct as hp s.heap.size) (mm_Xc D cl ad cA X.2.1 ct as hp s.heap.size) (as.map (mm_V ad)).toArray s u (u * 6) A = Q
  have hu0 : ct.2.2.2.2.1 as hp = 0 → u = ct.2.2.1 := fun q => by
    rw [← hu]
    show (match ct.2.2.2.2.1 as hp with | 0 => ct.2.2.1 | _ + 1 => 1) = ct.2.2.1
    rw [q]
  have hu1 : ∀ x, ct.2.2.2.2.1 as hp = x + 1 → u = 1 := fun x q => by
    rw [← hu]
    show (match ct.2.2.2.2.1 as hp with | 0 => ct.2.2.1 | _ + 1 => 1) = 1
    rw [q]
  have hRt : mm_retOk p l e (rm u) s m (as.map (mm_V ad)).toArray below meth c cc ad D cl cA X.2.1 A s.heap (mm_Rt ct as hp) ct.2.2.1 0 0 Q := by
    refine ⟨fun x pc ls hp' H locs b hd hR hw' hb9 => ?_, fun pc ls hp' H locs b hd hR hw' hb9 => ?_⟩
    · obtain ⟨r1, r2, rfl⟩ := hR
      have hu9 := hu0 r1
      rcases hret with ⟨h3, -⟩ | ⟨h3, ty, rfl, hn⟩
      · rw [h3] at r2; cases r2
      · rw [h3] at r2
        cases r2
        rw [← hQ]
        refine W.widen (k := u) (n := u * 6) (by omega) (by omega) (vx_ret ?_)
        exact W.zret hx hb hr (hn as hp hpre) (fun t ht hW => ⟨r1, by rw [h3]; rfl, by rw [ht]; exact hw'.1, by rw [hAe]; exact hw'.2.2.F ht⟩) hw'.2.2.2.2 hd
    · obtain ⟨r1, r2, rfl⟩ := hR
      have hu9 := hu0 r1
      rcases hret with ⟨h3, rfl⟩ | ⟨h3, ty, rfl, hn⟩
      · rw [← hQ]
        refine W.widen (k := u) (n := u * 6) (by omega) (by omega) (vx_ret ?_)
        exact W.vret hx hb hr (fun t ht hW => ⟨r1, by rw [h3]; rfl, by rw [ht]; exact hw'.1, by rw [hAe]; exact hw'.2.2.F ht⟩) hw'.2.2.2.2 hd
      · rw [h3] at r2; cases r2
  have hOut : ct.2.2.1 = 0 → mm_outOk p l e (rm u) s m (as.map (mm_V ad)).toArray below meth c ad D cl cA X.2.1 A s.heap X.2.2.2.2.2.2.2.1 (mm_Tx ct as hp) ct.2.2.1 0 0 Q := by
    intro hz x pc ls st hp' H locs b q ce _ hT hw' hex hb9
    obtain ⟨r1, rfl⟩ := hT
    have hu9 := hu1 x r1
    rw [← hQ]
    exact vx_out (E := mm_kind x) (fun z hz => (hnoEx z hz).elim) hlocks hex.1 hex.2.1 hex.2.2 (fun t ht _ => ⟨x, r1, rfl, by rw [ht]; exact hw'.1, by rw [hAe]; exact hw'.2.2.F ht⟩) hw'.2.2.2.2 (by omega) (by omega)
  have hThr : ct.2.2.1 = 0 → mm_thrOk p l e (rm u) s m (as.map (mm_V ad)).toArray below meth c cc nL ad D cl cA X.2.1 A s.heap X.2.2.2.2.2.2.1 (mm_Tx ct as hp) ct.2.2.1 0 0 Q := by
    intro hz k t d x pc ls hp' H locs b hth d0 d3 d4 d6 d9 hls hT hw' hb9
    obtain ⟨r1, rfl⟩ := hT
    have hu9 := hu1 x r1
    obtain ⟨text, sa, names, hstr, hfit, hfits, hnm, hws⟩ := hthS k t d x hth
    have hwd : ∀ w, w ∈ tbl ∨ w ∈ fx.2 → w.before (as.map (mm_V ad)).toArray s = true := fun w hw => hw.elim (hts w) (fun h9 => mm_nt_use (hFx.2.2.2 w h9).1 (hFx.2.2.2 w h9).2)
    rw [← hQ]
    have hroom : 6 ≤ (rm u).frames ∧ 82 ≤ (rm u).locals := by
      rcases hrx with h | h
      · rw [h] at hth; cases hth
      · exact h u
    have hc9 : 0 + b + 1 ≤ (rm u).cells := by rw [(hrm u).1]; omega
    have hs9 : 0 + b * 6 + 6 ≤ (rm u).slots := by rw [(hrm u).2]; omega
    refine vx_throwS (cls := mm_kind x) (text := text) (names := names) (sa := sa) (A := A) hx hb hst hown hfit hfits (hwd _ (hws _ List.mem_cons_self).1) (hwd _ (hws _ (List.mem_cons_of_mem _ List.mem_cons_self)).1) (hFx.2.2.1 _ hstr) (fun w hw => hwd _ (hws _ (List.mem_cons_of_mem _ (List.mem_cons_of_mem _ hw))).1) (fun w hw => (hws w hw).2) hFx.1 hFx.2.1 hw'.2.2 (hls.trans hml.symm) d0 d3 d4 d6 d9 (fun z hz => (hnoEx z hz).elim) ?_ ?_ hc9 hs9 hlocks ?_ hw'.2.2.2.2 (by omega) (by omega)
    · show names.length + 3 < (rm u).frames
      omega
    · show (List.map (fun v : Value => v.category) []).sum + (13 * (names.length + 1) + 43) ≤ (rm u).locals
      simp
      omega
    · intro t2 _ hz hk
      refine ⟨x, r1, rfl, hw'.1.kept (fun k9 q9 h9 => hk _ (hw'.1 k9 q9 h9).lt), Nat.le_trans hw'.2.2.1 hz, fun q h3 h4 => ?_⟩
      rw [hk q (Nat.lt_of_lt_of_le h3 hw'.2.2.1)]
      exact hw'.2.2.2.1 q h3 (by rw [← hAe]; exact h4)
  have hHnd : mm_hndOk p l e (rm u) s m (as.map (mm_V ad)).toArray below meth c X.2.2.2.2.2.2.2.1 Q := by
    intro x pc h ls st H locs cells slots q ce hh
    rw [hnh] at hh
    cases hh
  have hsc9 : mm_scOk ad A s.heap s X.2.2.1 := by rw [hsc]; intro q hq; cases hq
  have hsnd : ∀ (K : Nat → Option (mm_Loc → mm_Hp → Prop)), mm_cutOk p l e (rm u) s m (as.map (mm_V ad)).toArray below meth c nL ad D cl cA X.2.1 A s.heap K ct.2.2.1 0 0 Q →
      mm_Sd p l e (rm u) s m (as.map (mm_V ad)).toArray below meth c Q ad D cl cA A s.heap X.1 X.2.1 ct.2.2.1 0 0 nL (mm_wp X (K, mm_Rt ct as hp, mm_Tx ct as hp, ct.2.2.1) n) := by
    intro K hK9
    refine mm_sound (kb := ct.2.2.1) (B := (K, mm_Rt ct as hp, mm_Tx ct as hp, ct.2.2.1)) hx hb htab hts hown hK hf hpf hsc9 hcst rfl ?_ ?_ ?_ (hcal u p e s m _ below meth c A hin) (hThr hun) (hOut hun) hHnd hRt hK9 n
    · rw [(hrm u).1, hun]; omega
    · rw [(hrm u).2, hun]; omega
    · intro x hp' hT
      have hu9 := hu1 x hT.1
      rw [(hrm u).1, (hrm u).2, hun]
      exact ⟨by omega, by omega⟩
  have hall : ∀ v : Nat, mm_cutOk p l e (rm u) s m (as.map (mm_V ad)).toArray below meth c nL ad D cl cA X.2.1 A s.heap (mm_K (Inv as hp) ms v) ct.2.2.1 0 0 Q := by
    intro v
    induction v using Nat.strongRecOn with
    | ind v ih =>
      intro pc P L ls hp' H locs hPK hPL hL hw' hls
      unfold mm_K at hPK
      split at hPK
      · rename_i P' hP'
        cases hPK
        have hw9 := hinv as hp hlen hpre pc P' hP' L hp' hPL.1 hL
        have hne : mm_at X.1 pc ≠ [] := by
          intro q
          rw [q] at hw9
          cases n with
          | zero => exact hw9
          | succ n => exact hw9
        cases hq : mm_at X.1 pc with
        | nil => exact absurd hq hne
        | cons q nx =>
          rw [hq] at hw9
          have hK9 := hsnd _ (ih (ms pc L hp') hPL.2) (q :: nx) L [] hp' 0 hw9 (by rw [← hq]; exact List.dropWhile_suffix _) hL (Nat.zero_le _) H locs ls hw' hls
          have hpc : mm_pc (q :: nx) = pc := mm_at_pc hq
          rw [hpc] at hK9
          rw [hun]
          exact hK9
      · cases hPK
  have hcut0 : mm_cutOk p l e (rm u) s m (as.map (mm_V ad)).toArray below meth c nL ad D cl cA X.2.1 A s.heap (Inv as hp) ct.2.2.1 0 0 Q := by
    intro pc P L ls hp' H locs hPK hPL hL hw' hls
    exact hall (ms pc L hp' + 1) pc (fun L9 h9 => P L9 h9 ∧ ms pc L9 h9 < ms pc L hp' + 1) L ls hp' H locs (by unfold mm_K; rw [hPK]) ⟨hPL, by omega⟩ hL hw' hls
  have hl0 := lv_entry (as.map (mm_V ad)) (n := nL) (by rw [mm_sl_len _ (fun u hu => by
        obtain ⟨u', h1, rfl⟩ := List.mem_map.mp hu
        exact mm_c1V (hc1 as hp hpre u' h1)), List.length_map, hlen]; exact hnl)
  rw [lg_entry_eq]
  have hls0 := mm_Ls_entry (hc1 as hp hpre) (by rw [hlen]; exact hnl) hl0
  have K := hsnd _ hcut0 X.1 _ [] hp 0 (hent as hp hlen hpre) (List.suffix_refl _) (by simp; omega) (Nat.zero_le _) s.heap [] _ hw hls0
  rw [h0] at K
  exact K
end MMG
