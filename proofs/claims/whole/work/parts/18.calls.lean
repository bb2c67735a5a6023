/-! ===== contracts and calls of this claim's own classes ===== -/
def rmk (d u : Nat) : Room := { frames := d, cells := u, slots := u * 6, locals := 33 * d }
/-- the launch, the classes' numbers, the cells' addresses, the arrays' classes, what throws need -/
abbrev En : Type := Launch × va_G × (Nat → Nat) × (Nat → ClassId) × mm_Fxs
def strG : List (Nat × String) := [(45, "no such front die"), (50, "no such back die"), (55, "milligrams are 1 to 1000000"), (64, "there are 80 coins"), (201, "no such coin"), (207, "no such side"), (90, "stages are 0 to 9, or NONE"), (205, "no such die"), (213, "the dies are of two sides"), (110, "there are 60 rows"), (211, "no such place"), (209, "no such part"), (154, "there are eight hoards"), (203, "no such hoard"), (182, "there would be more than 40 signs"), (188, "there are twelve rules"), (199, "there is no such count")]
def ntG : List Jvm.Cond := [.castable (mm_kind 0) (mm_kind 0), .castable (mm_kind 1) (mm_kind 1), .castable (mm_kind 2) (mm_kind 2), .declares (Bundle.initS "java/lang/RuntimeException"), .declares (Bundle.initS "java/lang/Exception"), .declares (Bundle.initS Bundle.tN), .methodLinkNest "DieGraphs$Chains" 41 yG_contains "DieGraphs", .methodLinkNest "DieGraphs$Precedence" 44 yG_contains "DieGraphs"]
def EOk (E : En) : Prop := E.1.stackTraces = false ∧ (∀ q ∈ strG, ∃ sa, (RX4, q.1, q.2, sa) ∈ E.2.2.2.2.1) ∧ ∀ w ∈ ntG, w ∈ E.2.2.2.2.2
def Mt (E : En) (y : MethodName) (cc : ByteArray) (nL : Nat) (ret : Option FieldType) (d : Nat) (ct : mm_Ct) : Prop := mm_Met E.1 E.2.1 vwC E.2.2.1 E.2.2.2.1 lay E.2.2.2.2 y (Jvm.Cond.code y cc nL ret :: tbl) (rmk d) ct
/-- a call is sound in every body of the class own, at depth d -/
def CallFine (E : En) (own : String) (d : Nat) (st : Bool) (k : Nat) (ct : mm_Ct) : Prop := ∀ (u : Nat) (p : Program) (e : Env) (s : State) (m : MethodId) (args : Array Value) (below : List Frame) (meth : Method) (c : Code) (cc : ByteArray) (nL : Nat) (A : Nat → Prop),
  mm_In E.2.1 vwC E.2.2.2.1 E.2.2.2.2 p s m args c cc nL A own tbl → mm_callOk p E.1 e (rmk d u) s m args below meth c cc nL E.2.2.1 E.2.1 vwC E.2.2.2.1 lay A s.heap st k ct
def Calls (E : En) (own : String) (d : Nat) (cals : List (Nat × mm_Ct)) : Prop := ∀ (st : Bool) (k : Nat) (ct : mm_Ct), mm_look (cond st (2 * k + 1) (2 * k)) cals = some ct → CallFine E own d st k ct
theorem cf_nil {E : En} {own : String} {d : Nat} : Calls E own d [] := fun _ _ _ h => by cases h
theorem cf_v {E : En} {own : String} {d : Nat} {ct : mm_Ct} {cals : List (Nat × mm_Ct)} (k : Nat) (h : CallFine E own d false k ct) (r : Calls E own d cals) : Calls E own d ((2 * k, ct) :: cals) := by
  intro st k' ct' h'
  unfold mm_look at h'
  cases hb : Nat.beq (2 * k) (cond st (2 * k' + 1) (2 * k')) with
  | true =>
    rw [hb] at h'
    cases h'
    have h1 := Nat.eq_of_beq_eq_true hb
    cases st with
    | true => simp only [cond] at h1; omega
    | false =>
      simp only [cond] at h1
      have h2 : k = k' := by omega
      subst h2
      exact h
  | false =>
    rw [hb] at h'
    exact r st k' ct' h'
theorem cf_s {E : En} {own : String} {d : Nat} {ct : mm_Ct} {cals : List (Nat × mm_Ct)} (k : Nat) (h : CallFine E own d true k ct) (r : Calls E own d cals) : Calls E own d ((2 * k + 1, ct) :: cals) := by
  intro st k' ct' h'
  unfold mm_look at h'
  cases hb : Nat.beq (2 * k + 1) (cond st (2 * k' + 1) (2 * k')) with
  | true =>
    rw [hb] at h'
    cases h'
    have h1 := Nat.eq_of_beq_eq_true hb
    cases st with
    | true =>
      simp only [cond] at h1
      have h2 : k = k' := by omega
      subst h2
      exact h
    | false => simp only [cond] at h1; omega
  | false =>
    rw [hb] at h'
    exact r st k' ct' h'
theorem tbl_code {y : MethodName} {cc : ByteArray} {nL : Nat} {ret : Option FieldType} {ws : List Jvm.Cond} (h : ∀ w ∈ ws ++ [Jvm.Cond.code y cc nL ret], w ∈ tbl) : GoodIn tbl (ws ++ (Jvm.Cond.code y cc nL ret :: tbl)) := by
  intro w hw
  rcases List.mem_append.mp hw with hw | hw
  · exact tbl_good w (h w (List.mem_append_left _ hw))
  · rcases List.mem_cons.mp hw with rfl | hw
    · exact tbl_good _ (h _ (List.mem_append_right _ (List.mem_singleton.mpr rfl)))
    · exact tbl_good w hw
/-- an object's number is that of a cell of class C -/
def isObj (j : Nat) (C : String) : Bool := match lay[j]? with
  | some (.inr (ci, _)) => (match vwC[ci]? with
    | some q => decide (q.1 = C)
    | none => false)
  | _ => false
theorem isObj_spec {j : Nat} {C : String} (h : isObj j C = true) : ∃ (ci : Nat) (fs : List (Option Nat)) (q : vw_C), lay[j]? = some (.inr (ci, fs)) ∧ vwC[ci]? = some q ∧ q.1 = C := by
  unfold isObj at h
  split at h
  · rename_i ci fs hl
    split at h
    · rename_i q hq
      exact ⟨ci, fs, q, hl, hq, of_decide_eq_true h⟩
    · cases h
  · cases h
theorem cfV {E : En} {own C : String} {k maxL d d' n : Nat} {y : MethodName} {bytes : ByteArray} {ret : Option FieldType} {ct : mm_Ct} (hM : Mt E y bytes maxL ret d' ct) (j : Nat) (hj : isObj j C = true) (hthis : ∀ as hp, ct.2.2.2.1 as hp → ∃ as', as = .ref j :: as') (hd : d' < d) (hmx : maxL ≤ 14) (hn : ct.1 = n + 1)
    (hw : ∀ w ∈ wsV own k C y [] ++ [Jvm.Cond.code y bytes maxL ret], w ∈ tbl) (hy : y.cls = C ∧ y.cls ≠ "java/lang/invoke/MethodHandle" ∧ y.cls ≠ "java/lang/invoke/VarHandle" ∧ (parseMethodDescriptor y.desc).map (fun d => d.parameters.length) = some n) : CallFine E own d false k ct := by
  intro u p e s m args below meth c cc nL A hin
  refine mm_callV (C := C) (n := n) (bytes := bytes) (maxL := maxL) (ret := ret) hin hM (fun u' => ?_) hn (fun as hp h => ?_)
  · refine cwV n hin.1.2.2.2.2 ?_ rfl rfl rfl hy ⟨hd, ?_⟩
    · have h9 := tbl_code (ws := wsV own k C y []) hw
      simpa [wsV] using h9
    · show 8 + (maxL + 11) + 33 * d' ≤ 33 * d
      omega
  · obtain ⟨as', rfl⟩ := hthis as hp h
    obtain ⟨ci, fs, q, h1, h2, h3⟩ := isObj_spec hj
    exact ⟨j, as', ci, fs, q, rfl, h1, h2, h3⟩
theorem cfS {E : En} {own : String} {k maxL d d' : Nat} {y : MethodName} {bytes : ByteArray} {ret : Option FieldType} {ct : mm_Ct} (hM : Mt E y bytes maxL ret d' ct) (hd : d' < d) (hmx : maxL ≤ 14)
    (hw : ∀ w ∈ ([.methodLink own k y, .static y, .initialized y.cls] : List Jvm.Cond) ++ [Jvm.Cond.code y bytes maxL ret], w ∈ tbl) (hy : y.cls ≠ "java/lang/invoke/MethodHandle" ∧ y.cls ≠ "java/lang/invoke/VarHandle" ∧ (parseMethodDescriptor y.desc).map (fun d => d.parameters.length) = some ct.1) : CallFine E own d true k ct := by
  intro u p e s m args below meth c cc nL A hin
  have hts := hin.1.2.2.2.2
  refine mm_callS (bytes := bytes) (maxL := maxL) (ret := ret) hin hM (fun u' => ⟨callB_of ct.1 hts ?_ rfl rfl rfl ?_ ?_ hy ⟨hd, ?_⟩, ?_⟩)
  · exact tbl_code (ws := []) (fun w h => hw w (List.mem_append_right _ h))
  · exact hts _ (hw _ (by simp))
  · exact hts _ (hw _ (by simp))
  · show 8 + (maxL + 11) + 33 * d' ≤ 33 * d
    omega
  · exact hts _ (hw _ (by simp))
theorem cfN {E : En} (hE : EOk E) {own host : String} {k maxL d d' : Nat} {y : MethodName} {bytes : ByteArray} {ret : Option FieldType} {ct : mm_Ct} (hM : Mt E y bytes maxL ret d' ct) (hd : d' < d) (hmx : maxL ≤ 14) (hnt : Jvm.Cond.methodLinkNest own k y host ∈ ntG)
    (hw : ∀ w ∈ ([.static y, .initialized y.cls] : List Jvm.Cond) ++ [Jvm.Cond.code y bytes maxL ret], w ∈ tbl) (hy : y.cls ≠ "java/lang/invoke/MethodHandle" ∧ y.cls ≠ "java/lang/invoke/VarHandle" ∧ (parseMethodDescriptor y.desc).map (fun d => d.parameters.length) = some ct.1) (h0 : ∀ as hp, ct.2.2.2.1 as hp → ct.2.2.2.2.1 as hp = 0) : CallFine E own d true k ct := by
  intro u p e s m args below meth c cc nL A hin
  have hts := hin.1.2.2.2.2
  refine mm_callSN (host := host) (bytes := bytes) (maxL := maxL) (ret := ret) hin hM (fun u' => va_cnB ct.1 hts ?_ rfl rfl rfl ?_ ?_ hy ⟨hd, ?_⟩) ?_ h0
  · exact tbl_code (ws := []) (fun w h => hw w (List.mem_append_right _ h))
  · exact (hin.2.2.1.2.2.2 _ (hE.2.2 _ hnt)).2
  · exact hts _ (hw _ (by simp))
  · show 8 + (maxL + 11) + 33 * d' ≤ 33 * d
    omega
  · exact hts _ (hw _ (by simp))
/-- methods on the object j with 0 .. 4 ints -/
def ct0 (j r : Nat) (P : mm_Hp → Prop) (tx : mm_Hp → Nat) (rv : mm_Hp → Int32) (sg : mm_Hp → mm_Hp) : mm_Ct := (1, r, 0, fun as hp => match as with
  | [.ref k] => k = j ∧ P hp
  | _ => False, fun _ hp => tx hp, fun _ hp => rv hp, fun _ hp => sg hp)
def ct1 (j r : Nat) (P : Int32 → mm_Hp → Prop) (tx : Int32 → mm_Hp → Nat) (rv : Int32 → mm_Hp → Int32) (sg : Int32 → mm_Hp → mm_Hp) : mm_Ct := (2, r, 0, fun as hp => match as with
  | [.ref k, .int a] => k = j ∧ P a hp
  | _ => False, fun as hp => match as with
  | [_, .int a] => tx a hp
  | _ => 0, fun as hp => match as with
  | [_, .int a] => rv a hp
  | _ => 0, fun as hp => match as with
  | [_, .int a] => sg a hp
  | _ => hp)
def ct2 (j r : Nat) (P : Int32 → Int32 → mm_Hp → Prop) (tx : Int32 → Int32 → mm_Hp → Nat) (rv : Int32 → Int32 → mm_Hp → Int32) (sg : Int32 → Int32 → mm_Hp → mm_Hp) : mm_Ct := (3, r, 0, fun as hp => match as with
  | [.ref k, .int a, .int b] => k = j ∧ P a b hp
  | _ => False, fun as hp => match as with
  | [_, .int a, .int b] => tx a b hp
  | _ => 0, fun as hp => match as with
  | [_, .int a, .int b] => rv a b hp
  | _ => 0, fun as hp => match as with
  | [_, .int a, .int b] => sg a b hp
  | _ => hp)
def ct3 (j r : Nat) (P : Int32 → Int32 → Int32 → mm_Hp → Prop) (tx : Int32 → Int32 → Int32 → mm_Hp → Nat) (rv : Int32 → Int32 → Int32 → mm_Hp → Int32) (sg : Int32 → Int32 → Int32 → mm_Hp → mm_Hp) : mm_Ct := (4, r, 0, fun as hp => match as with
  | [.ref k, .int a, .int b, .int c] => k = j ∧ P a b c hp
  | _ => False, fun as hp => match as with
  | [_, .int a, .int b, .int c] => tx a b c hp
  | _ => 0, fun as hp => match as with
  | [_, .int a, .int b, .int c] => rv a b c hp
  | _ => 0, fun as hp => match as with
  | [_, .int a, .int b, .int c] => sg a b c hp
  | _ => hp)
/-- static ones -/
def cs1 (r : Nat) (P : Int32 → mm_Hp → Prop) (tx : Int32 → mm_Hp → Nat) (rv : Int32 → mm_Hp → Int32) : mm_Ct := (1, r, 0, fun as hp => match as with
  | [.int a] => P a hp
  | _ => False, fun as hp => match as with
  | [.int a] => tx a hp
  | _ => 0, fun as hp => match as with
  | [.int a] => rv a hp
  | _ => 0, fun _ hp => hp)
def cs2 (r : Nat) (P : Int32 → Int32 → mm_Hp → Prop) (tx : Int32 → Int32 → mm_Hp → Nat) (rv : Int32 → Int32 → mm_Hp → Int32) : mm_Ct := (2, r, 0, fun as hp => match as with
  | [.int a, .int b] => P a b hp
  | _ => False, fun as hp => match as with
  | [.int a, .int b] => tx a b hp
  | _ => 0, fun as hp => match as with
  | [.int a, .int b] => rv a b hp
  | _ => 0, fun _ hp => hp)
def cs3 (r : Nat) (P : Int32 → Int32 → Int32 → mm_Hp → Prop) (tx : Int32 → Int32 → Int32 → mm_Hp → Nat) (rv : Int32 → Int32 → Int32 → mm_Hp → Int32) : mm_Ct := (3, r, 0, fun as hp => match as with
  | [.int a, .int b, .int c] => P a b c hp
  | _ => False, fun as hp => match as with
  | [.int a, .int b, .int c] => tx a b c hp
  | _ => 0, fun as hp => match as with
  | [.int a, .int b, .int c] => rv a b c hp
  | _ => 0, fun _ hp => hp)
theorem ct0_s {j r : Nat} {P : mm_Hp → Prop} {tx : mm_Hp → Nat} {rv : mm_Hp → Int32} {sg : mm_Hp → mm_Hp} {as : List Value} {hp : mm_Hp} (h : (ct0 j r P tx rv sg).2.2.2.1 as hp) : as = [.ref j] ∧ P hp := by
  unfold ct0 at h
  dsimp only at h
  split at h
  · obtain ⟨rfl, h⟩ := h; exact ⟨rfl, h⟩
  · exact h.elim
theorem ct1_s {j r : Nat} {P : Int32 → mm_Hp → Prop} {tx : Int32 → mm_Hp → Nat} {rv : Int32 → mm_Hp → Int32} {sg : Int32 → mm_Hp → mm_Hp} {as : List Value} {hp : mm_Hp} (h : (ct1 j r P tx rv sg).2.2.2.1 as hp) : ∃ a, as = [.ref j, .int a] ∧ P a hp := by
  unfold ct1 at h
  dsimp only at h
  split at h
  · obtain ⟨rfl, h⟩ := h; exact ⟨_, rfl, h⟩
  · exact h.elim
theorem ct2_s {j r : Nat} {P : Int32 → Int32 → mm_Hp → Prop} {tx : Int32 → Int32 → mm_Hp → Nat} {rv : Int32 → Int32 → mm_Hp → Int32} {sg : Int32 → Int32 → mm_Hp → mm_Hp} {as : List Value} {hp : mm_Hp} (h : (ct2 j r P tx rv sg).2.2.2.1 as hp) : ∃ a b, as = [.ref j, .int a, .int b] ∧ P a b hp := by
  unfold ct2 at h
  dsimp only at h
  split at h
  · obtain ⟨rfl, h⟩ := h; exact ⟨_, _, rfl, h⟩
  · exact h.elim
theorem ct3_s {j r : Nat} {P : Int32 → Int32 → Int32 → mm_Hp → Prop} {tx : Int32 → Int32 → Int32 → mm_Hp → Nat} {rv : Int32 → Int32 → Int32 → mm_Hp → Int32} {sg : Int32 → Int32 → Int32 → mm_Hp → mm_Hp} {as : List Value} {hp : mm_Hp} (h : (ct3 j r P tx rv sg).2.2.2.1 as hp) : ∃ a b c, as = [.ref j, .int a, .int b, .int c] ∧ P a b c hp := by
  unfold ct3 at h
  dsimp only at h
  split at h
  · obtain ⟨rfl, h⟩ := h; exact ⟨_, _, _, rfl, h⟩
  · exact h.elim
theorem cs1_s {r : Nat} {P : Int32 → mm_Hp → Prop} {tx : Int32 → mm_Hp → Nat} {rv : Int32 → mm_Hp → Int32} {as : List Value} {hp : mm_Hp} (h : (cs1 r P tx rv).2.2.2.1 as hp) : ∃ a, as = [.int a] ∧ P a hp := by
  unfold cs1 at h
  dsimp only at h
  split at h
  · exact ⟨_, rfl, h⟩
  · exact h.elim
theorem cs2_s {r : Nat} {P : Int32 → Int32 → mm_Hp → Prop} {tx : Int32 → Int32 → mm_Hp → Nat} {rv : Int32 → Int32 → mm_Hp → Int32} {as : List Value} {hp : mm_Hp} (h : (cs2 r P tx rv).2.2.2.1 as hp) : ∃ a b, as = [.int a, .int b] ∧ P a b hp := by
  unfold cs2 at h
  dsimp only at h
  split at h
  · exact ⟨_, _, rfl, h⟩
  · exact h.elim
theorem cs3_s {r : Nat} {P : Int32 → Int32 → Int32 → mm_Hp → Prop} {tx : Int32 → Int32 → Int32 → mm_Hp → Nat} {rv : Int32 → Int32 → Int32 → mm_Hp → Int32} {as : List Value} {hp : mm_Hp} (h : (cs3 r P tx rv).2.2.2.1 as hp) : ∃ a b c, as = [.int a, .int b, .int c] ∧ P a b c hp := by
  unfold cs3 at h
  dsimp only at h
  split at h
  · exact ⟨_, _, _, rfl, h⟩
  · exact h.elim
