/-! ===== the law's helpers ===== -/
def ncL : List (String × String) := [(mm_kind 1, mm_kind 0), (mm_kind 2, mm_kind 0), (mm_kind 2, mm_kind 1)]
def MtH (E : En) (y : MethodName) (cc : ByteArray) (nL : Nat) (hh : List (Nat × Nat × Nat × Nat)) (d : Nat) (ct : mm_Ct) : Prop := mm_MetH E.1 E.2.1 vwC E.2.2.1 E.2.2.2.1 lay E.2.2.2.2 ncL y (Jvm.Cond.codeWith y cc nL (some .int) hh :: tbl) (rmk d) ct
def xxL (tab : mm_Tab) (cals : List (Nat × mm_Ct)) (hnd : Nat → Nat → Option Nat) : mm_Cx := (tab, lay, none, fun _ => none, fun _ => none, fun st k => mm_look (cond st (2 * k + 1) (2 * k)) cals, fun _ _ _ => none, hnd, fun _ => none)
theorem metL {E : En} (hE : EOk E) {y : MethodName} {cc : ByteArray} {nL d n : Nat} {hh : List (Nat × Nat × Nat × Nat)} {ct : mm_Ct} {tab : mm_Tab} {cals : List (Nat × mm_Ct)} {hnd : Nat → Nat → Option Nat} (hown : y.cls = "DieGraphsLaw") (hy : plainName y.cls = true) (htab : mm_tok cc tab) (h0 : mm_pc tab = 0) (hcal : Calls E "DieGraphsLaw" d cals)
    (hhs : mm_hndSt "DieGraphsLaw" tbl E.2.2.2.2 ncL hh hnd) (hr : ct.2.1 = 1) (hc1 : ∀ as hp, ct.2.2.2.1 as hp → ∀ v ∈ as, mm_c1 v = true) (hnl : ct.1 ≤ nL) (htx : ∀ as hp, ct.2.2.2.2.1 as hp = 0)
    (hent : ∀ as hp, as.length = ct.1 → ct.2.2.2.1 as hp → mm_wp (xxL tab cals hnd) (fun _ => none, mm_Rt ct as hp, fun _ _ => False, ct.2.2.1) n tab (as.map some ++ List.replicate (nL - as.length) none) [] hp 0) : MtH E y cc nL hh d ct := by
  refine mm_metH (X := xxL tab cals hnd) (n := n) hy htab h0 rfl (by rw [hown]; exact hhs) ?_ ?_ ?_ (fun _ _ _ => rfl) (fun u => ⟨rfl, rfl⟩) ?_ (rt_i hr) hc1 hnl htx hent
  · intro k ci j h; cases h
  · intro k ci j h; cases h
  · intro k v h; cases h
  · intro u p e s m args below meth c A hin st k ct' h
    rw [hown] at hin
    exact hcal st k ct' h u p e s m args below meth c cc nL A hin
def hnd1 (p x h : Nat) : Nat → Nat → Option Nat := fun pc e => cond (Nat.beq pc p && Nat.beq e x) (some h) none
def hnd2 (p h h' : Nat) : Nat → Nat → Option Nat := fun pc e => cond (Nat.beq pc p) (cond (Nat.beq e 0) (some h) (cond (Nat.beq e 1) (some h') none)) none
def hnd3 (p h h' h'' : Nat) : Nat → Nat → Option Nat := fun pc e => cond (Nat.beq pc p) (cond (Nat.beq e 0) (some h) (cond (Nat.beq e 1) (some h') (cond (Nat.beq e 2) (some h'') none))) none
theorem lkX : ∀ x, x < 3 → Jvm.Cond.classLink "DieGraphsLaw" (13 + 2 * x) (mm_kind x) ∈ tbl := by
  intro x hx
  rcases (by omega : x = 0 ∨ x = 1 ∨ x = 2) with rfl | rfl | rfl
  · exact xL_13
  · exact xL_15
  · exact xL_17
theorem lcX {E : En} (hE : EOk E) : ∀ x, x < 3 → Jvm.Cond.castable (mm_kind x) (mm_kind x) ∈ E.2.2.2.2.2 := by
  intro x hx
  rcases (by omega : x = 0 ∨ x = 1 ∨ x = 2) with rfl | rfl | rfl
  · exact hE.2.2 _ (by simp [ntG])
  · exact hE.2.2 _ (by simp [ntG])
  · exact hE.2.2 _ (by simp [ntG])
theorem hs1 {E : En} (hE : EOk E) {p x h a b : Nat} (hx : x < 3) (hc : covers (⟨a, b, h, 13 + 2 * x⟩ : ExceptionTableEntry) p = true) : mm_hndSt "DieGraphsLaw" tbl E.2.2.2.2 ncL [(a, b, h, 13 + 2 * x)] (hnd1 p x h) := by
  intro pc e h' q
  unfold hnd1 at q
  cases hb : Nat.beq pc p && Nat.beq e x with
  | false => rw [hb] at q; cases q
  | true =>
    rw [hb] at q
    cases q
    rw [Bool.and_eq_true] at hb
    have e1 := Nat.eq_of_beq_eq_true hb.1
    have e2 := Nat.eq_of_beq_eq_true hb.2
    subst e1 e2
    exact ⟨[], ⟨a, b, h, 13 + 2 * e⟩, [], mm_kind e, rfl, fun w hw => absurd hw List.not_mem_nil, hc, by show ¬ 13 + 2 * e = 0; omega, rfl, lkX e hx, lcX hE e hx⟩
theorem hs2 {E : En} (hE : EOk E) {p h h' a b : Nat} (hc : covers (⟨a, b, h, 13⟩ : ExceptionTableEntry) p = true) (hc' : covers (⟨a, b, h', 15⟩ : ExceptionTableEntry) p = true) : mm_hndSt "DieGraphsLaw" tbl E.2.2.2.2 ncL [(a, b, h, 13), (a, b, h', 15)] (hnd2 p h h') := by
  intro pc e h2 q
  unfold hnd2 at q
  cases hb : Nat.beq pc p with
  | false => rw [hb] at q; cases q
  | true =>
    rw [hb] at q
    have e1 := Nat.eq_of_beq_eq_true hb
    subst e1
    match e, q with
    | 0, q =>
      cases q
      exact ⟨[], ⟨a, b, h, 13⟩, [⟨a, b, h', 15⟩], mm_kind 0, rfl, fun w hw => absurd hw List.not_mem_nil, hc, by show ¬ 13 = 0; omega, rfl, lkX 0 (by omega), lcX hE 0 (by omega)⟩
    | 1, q =>
      cases q
      refine ⟨[⟨a, b, h, 13⟩], ⟨a, b, h', 15⟩, [], mm_kind 1, rfl, fun w hw => ?_, hc', by show ¬ 15 = 0; omega, rfl, lkX 1 (by omega), lcX hE 1 (by omega)⟩
      rw [List.mem_singleton] at hw
      subst hw
      exact Or.inr ⟨by show ¬ 13 = 0; omega, mm_kind 0, lkX 0 (by omega), by simp [ncL]⟩
    | n + 2, q => cases q
theorem hs3 {E : En} (hE : EOk E) {p h h' h'' a b : Nat} (hc : covers (⟨a, b, h, 13⟩ : ExceptionTableEntry) p = true) (hc' : covers (⟨a, b, h', 15⟩ : ExceptionTableEntry) p = true) (hc'' : covers (⟨a, b, h'', 17⟩ : ExceptionTableEntry) p = true) : mm_hndSt "DieGraphsLaw" tbl E.2.2.2.2 ncL [(a, b, h, 13), (a, b, h', 15), (a, b, h'', 17)] (hnd3 p h h' h'') := by
  intro pc e h2 q
  unfold hnd3 at q
  cases hb : Nat.beq pc p with
  | false => rw [hb] at q; cases q
  | true =>
    rw [hb] at q
    have e1 := Nat.eq_of_beq_eq_true hb
    subst e1
    match e, q with
    | 0, q =>
      cases q
      exact ⟨[], ⟨a, b, h, 13⟩, [⟨a, b, h', 15⟩, ⟨a, b, h'', 17⟩], mm_kind 0, rfl, fun w hw => absurd hw List.not_mem_nil, hc, by show ¬ 13 = 0; omega, rfl, lkX 0 (by omega), lcX hE 0 (by omega)⟩
    | 1, q =>
      cases q
      refine ⟨[⟨a, b, h, 13⟩], ⟨a, b, h', 15⟩, [⟨a, b, h'', 17⟩], mm_kind 1, rfl, fun w hw => ?_, hc', by show ¬ 15 = 0; omega, rfl, lkX 1 (by omega), lcX hE 1 (by omega)⟩
      rw [List.mem_singleton] at hw
      subst hw
      exact Or.inr ⟨by show ¬ 13 = 0; omega, mm_kind 0, lkX 0 (by omega), by simp [ncL]⟩
    | 2, q =>
      cases q
      refine ⟨[⟨a, b, h, 13⟩, ⟨a, b, h', 15⟩], ⟨a, b, h'', 17⟩, [], mm_kind 2, rfl, fun w hw => ?_, hc'', by show ¬ 17 = 0; omega, rfl, lkX 2 (by omega), lcX hE 2 (by omega)⟩
      rcases List.mem_cons.mp hw with rfl | hw
      · exact Or.inr ⟨by show ¬ 13 = 0; omega, mm_kind 0, lkX 0 (by omega), by simp [ncL]⟩
      · rw [List.mem_singleton] at hw
        subst hw
        exact Or.inr ⟨by show ¬ 15 = 0; omega, mm_kind 1, lkX 1 (by omega), by simp [ncL]⟩
    | n + 3, q => cases q
/-- behind a helper: the answer lies in out[0] where nothing was thrown -/
def outH (wv : Int32 → Int64) (x : Nat) (v : Int32) (h : mm_Hp) : mm_Hp := if x = 0 then (h.1, mm_upL h.2 43 0 (wv v)) else h
def ch3 (P : Int32 → Int32 → Int32 → mm_Hp → Prop) (tx : Int32 → Int32 → Int32 → mm_Hp → Nat) (cd : Nat → Int32) (wv : Int32 → Int64) (rv : Int32 → Int32 → Int32 → mm_Hp → Int32) (sg : Int32 → Int32 → Int32 → mm_Hp → mm_Hp) : mm_Ct := (5, 1, 1, fun as hp => match as with
  | [.ref j, .int a, .int b, .int c, .ref o] => j = 0 ∧ o = 43 ∧ P a b c hp
  | _ => False, fun _ _ => 0, fun as hp => match as with
  | [_, .int a, .int b, .int c, _] => cd (tx a b c hp)
  | _ => 0, fun as hp => match as with
  | [_, .int a, .int b, .int c, _] => outH wv (tx a b c hp) (rv a b c hp) (sg a b c hp)
  | _ => hp)
theorem ch3_s {P : Int32 → Int32 → Int32 → mm_Hp → Prop} {tx : Int32 → Int32 → Int32 → mm_Hp → Nat} {cd : Nat → Int32} {wv : Int32 → Int64} {rv : Int32 → Int32 → Int32 → mm_Hp → Int32} {sg : Int32 → Int32 → Int32 → mm_Hp → mm_Hp} {as : List Value} {hp : mm_Hp} (h : (ch3 P tx cd wv rv sg).2.2.2.1 as hp) : ∃ a b c, as = [.ref 0, .int a, .int b, .int c, .ref 43] ∧ P a b c hp := by
  unfold ch3 at h
  dsimp only at h
  split at h
  · obtain ⟨rfl, rfl, h⟩ := h
    exact ⟨_, _, _, rfl, h⟩
  · exact h.elim
theorem ch3_c {P : Int32 → Int32 → Int32 → mm_Hp → Prop} {tx : Int32 → Int32 → Int32 → mm_Hp → Nat} {cd : Nat → Int32} {wv : Int32 → Int64} {rv : Int32 → Int32 → Int32 → mm_Hp → Int32} {sg : Int32 → Int32 → Int32 → mm_Hp → mm_Hp} : ∀ as hp, (ch3 P tx cd wv rv sg).2.2.2.1 as hp → ∀ v ∈ as, mm_c1 v = true := by
  intro as hp h
  obtain ⟨a, b, c, rfl, -⟩ := ch3_s h
  intro v hv
  simp at hv
  rcases hv with rfl | rfl | rfl | rfl | rfl <;> rfl
theorem v01 : vp_in (Int32.ofInt 0) 1 := nIv (i := 0) (n := 1) (by omega) (by omega)
def cdI (x : Nat) : Int32 := nI x
def wvI (v : Int32) : Int64 := v.toInt64
