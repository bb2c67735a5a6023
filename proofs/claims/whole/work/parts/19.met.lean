/-! ===== contracts, a class's tables given ===== -/
def xx (fl pf : List (Nat × (Nat × Nat))) (cs : List (Nat × Int32)) (tab : mm_Tab) (cals : List (Nat × mm_Ct)) : mm_Cx := (tab, lay, none, fun k => mm_look k fl, fun k => mm_look k pf, fun st k => mm_look (cond st (2 * k + 1) (2 * k)) cals, fun _ _ _ => none, fun _ _ => none, fun k => mm_look k cs)
theorem met {E : En} (hE : EOk E) {own : String} {fl pf : List (Nat × (Nat × Nat))} {cs : List (Nat × Int32)} (hf : mm_fldOk own vwC tbl (fun k => mm_look k fl)) (hpf : mm_pflOk own vwC tbl (fun k => mm_look k pf)) (hcs : ∀ k v, mm_look k cs = some v → Jvm.Cond.constant own k v ∈ tbl)
    {y : MethodName} {cc : ByteArray} {nL d n : Nat} {ret : Option FieldType} {ct : mm_Ct} {tab : mm_Tab} {cals : List (Nat × mm_Ct)} (hown : y.cls = own) (hy : plainName y.cls = true) (htab : mm_tok cc tab) (h0 : mm_pc tab = 0) (hcal : Calls E own d cals)
    (hret : (ct.2.1 = 0 ∧ ret = none) ∨ (ct.2.1 = 1 ∧ ∃ ty, ret = some ty ∧ ∀ as hp, ct.2.2.2.1 as hp → narrow ty (.int (ct.2.2.2.2.2.1 as hp)) = .int (ct.2.2.2.2.2.1 as hp))) (hc1 : ∀ as hp, ct.2.2.2.1 as hp → ∀ v ∈ as, mm_c1 v = true) (hnl : ct.1 ≤ nL) (hun : ct.2.2.1 = 0)
    (Inv : List Value → mm_Hp → Nat → Option (mm_Loc → mm_Hp → Prop)) (ms : Nat → mm_Loc → mm_Hp → Nat)
    (hent : ∀ as hp, as.length = ct.1 → ct.2.2.2.1 as hp → mm_wp (xx fl pf cs tab cals) (Inv as hp, mm_Rt ct as hp, mm_Tx ct as hp, 0) n tab (as.map some ++ List.replicate (nL - as.length) none) [] hp 0)
    (hinv : ∀ as hp, as.length = ct.1 → ct.2.2.2.1 as hp → ∀ pc P, Inv as hp pc = some P → ∀ L hp', P L hp' → L.length = nL → mm_wp (xx fl pf cs tab cals) (mm_K (Inv as hp) ms (ms pc L hp'), mm_Rt ct as hp, mm_Tx ct as hp, 0) n (mm_at tab pc) L [] hp' 0) : Mt E y cc nL ret d ct := by
  subst hown
  refine mm_met (X := xx fl pf cs tab cals) (n := n) hy hE.1 htab h0 rfl (fun _ _ => rfl) hf hpf hcs (fun _ _ _ _ h => by cases h) (fun u => ⟨rfl, rfl⟩) (Or.inl (fun _ _ _ => rfl)) (fun u p e s m args below meth c A hin st k ct' h => hcal st k ct' h u p e s m args below meth c cc nL A hin) hret hc1 hnl hun Inv ms ?_ ?_
  · rw [hun]; exact hent
  · rw [hun]; exact hinv
/-- a method without a loop -/
theorem metS {E : En} (hE : EOk E) {own : String} {fl pf : List (Nat × (Nat × Nat))} {cs : List (Nat × Int32)} (hf : mm_fldOk own vwC tbl (fun k => mm_look k fl)) (hpf : mm_pflOk own vwC tbl (fun k => mm_look k pf)) (hcs : ∀ k v, mm_look k cs = some v → Jvm.Cond.constant own k v ∈ tbl)
    {y : MethodName} {cc : ByteArray} {nL d n : Nat} {ret : Option FieldType} {ct : mm_Ct} {tab : mm_Tab} {cals : List (Nat × mm_Ct)} (hown : y.cls = own) (hy : plainName y.cls = true) (htab : mm_tok cc tab) (h0 : mm_pc tab = 0) (hcal : Calls E own d cals)
    (hret : (ct.2.1 = 0 ∧ ret = none) ∨ (ct.2.1 = 1 ∧ ∃ ty, ret = some ty ∧ ∀ as hp, ct.2.2.2.1 as hp → narrow ty (.int (ct.2.2.2.2.2.1 as hp)) = .int (ct.2.2.2.2.2.1 as hp))) (hc1 : ∀ as hp, ct.2.2.2.1 as hp → ∀ v ∈ as, mm_c1 v = true) (hnl : ct.1 ≤ nL) (hun : ct.2.2.1 = 0)
    (hent : ∀ as hp, as.length = ct.1 → ct.2.2.2.1 as hp → mm_wp (xx fl pf cs tab cals) (fun _ => none, mm_Rt ct as hp, mm_Tx ct as hp, 0) n tab (as.map some ++ List.replicate (nL - as.length) none) [] hp 0) : Mt E y cc nL ret d ct :=
  met (n := n) hE hf hpf hcs hown hy htab h0 hcal hret hc1 hnl hun (fun _ _ _ => none) (fun _ _ _ => 0) hent (fun _ _ _ _ _ _ h => by cases h)
theorem rt_i {ct : mm_Ct} (h : ct.2.1 = 1) : (ct.2.1 = 0 ∧ (some FieldType.int) = none) ∨ (ct.2.1 = 1 ∧ ∃ ty, some FieldType.int = some ty ∧ ∀ as hp, ct.2.2.2.1 as hp → narrow ty (.int (ct.2.2.2.2.2.1 as hp)) = .int (ct.2.2.2.2.2.1 as hp)) := Or.inr ⟨h, .int, rfl, fun _ _ _ => rfl⟩
theorem rt_v {ct : mm_Ct} (h : ct.2.1 = 0) : (ct.2.1 = 0 ∧ (none : Option FieldType) = none) ∨ (ct.2.1 = 1 ∧ ∃ ty, (none : Option FieldType) = some ty ∧ ∀ as hp, ct.2.2.2.1 as hp → narrow ty (.int (ct.2.2.2.2.2.1 as hp)) = .int (ct.2.2.2.2.2.1 as hp)) := Or.inl ⟨h, rfl⟩
def isB (x : Int32) : Prop := x = 0 ∨ x = 1
theorem isB_n {x : Int32} (h : isB x) : narrow .boolean (.int x) = .int x := by
  rcases h with rfl | rfl <;> decide +kernel
theorem rt_z {ct : mm_Ct} (h : ct.2.1 = 1) (hb : ∀ as hp, ct.2.2.2.1 as hp → isB (ct.2.2.2.2.2.1 as hp)) : (ct.2.1 = 0 ∧ (some FieldType.boolean) = none) ∨ (ct.2.1 = 1 ∧ ∃ ty, some FieldType.boolean = some ty ∧ ∀ as hp, ct.2.2.2.1 as hp → narrow ty (.int (ct.2.2.2.2.2.1 as hp)) = .int (ct.2.2.2.2.2.1 as hp)) := Or.inr ⟨h, .boolean, rfl, fun as hp hq => isB_n (hb as hp hq)⟩
theorem ct0_c {j r : Nat} {P : mm_Hp → Prop} {tx : mm_Hp → Nat} {rv : mm_Hp → Int32} {sg : mm_Hp → mm_Hp} (as : List Value) (hp : mm_Hp) (h : (ct0 j r P tx rv sg).2.2.2.1 as hp) : ∀ v ∈ as, mm_c1 v = true := by
  obtain ⟨rfl, -⟩ := ct0_s h
  intro v hv
  simp at hv
  subst hv
  rfl
theorem ct1_c {j r : Nat} {P : Int32 → mm_Hp → Prop} {tx : Int32 → mm_Hp → Nat} {rv : Int32 → mm_Hp → Int32} {sg : Int32 → mm_Hp → mm_Hp} (as : List Value) (hp : mm_Hp) (h : (ct1 j r P tx rv sg).2.2.2.1 as hp) : ∀ v ∈ as, mm_c1 v = true := by
  obtain ⟨a, rfl, -⟩ := ct1_s h
  intro v hv
  simp at hv
  rcases hv with rfl | rfl <;> rfl
theorem ct2_c {j r : Nat} {P : Int32 → Int32 → mm_Hp → Prop} {tx : Int32 → Int32 → mm_Hp → Nat} {rv : Int32 → Int32 → mm_Hp → Int32} {sg : Int32 → Int32 → mm_Hp → mm_Hp} (as : List Value) (hp : mm_Hp) (h : (ct2 j r P tx rv sg).2.2.2.1 as hp) : ∀ v ∈ as, mm_c1 v = true := by
  obtain ⟨a, b, rfl, -⟩ := ct2_s h
  intro v hv
  simp at hv
  rcases hv with rfl | rfl | rfl <;> rfl
theorem ct3_c {j r : Nat} {P : Int32 → Int32 → Int32 → mm_Hp → Prop} {tx : Int32 → Int32 → Int32 → mm_Hp → Nat} {rv : Int32 → Int32 → Int32 → mm_Hp → Int32} {sg : Int32 → Int32 → Int32 → mm_Hp → mm_Hp} (as : List Value) (hp : mm_Hp) (h : (ct3 j r P tx rv sg).2.2.2.1 as hp) : ∀ v ∈ as, mm_c1 v = true := by
  obtain ⟨a, b, c, rfl, -⟩ := ct3_s h
  intro v hv
  simp at hv
  rcases hv with rfl | rfl | rfl | rfl <;> rfl
theorem cs1_c {r : Nat} {P : Int32 → mm_Hp → Prop} {tx : Int32 → mm_Hp → Nat} {rv : Int32 → mm_Hp → Int32} (as : List Value) (hp : mm_Hp) (h : (cs1 r P tx rv).2.2.2.1 as hp) : ∀ v ∈ as, mm_c1 v = true := by
  obtain ⟨a, rfl, -⟩ := cs1_s h
  intro v hv
  simp at hv
  subst hv
  rfl
theorem cs2_c {r : Nat} {P : Int32 → Int32 → mm_Hp → Prop} {tx : Int32 → Int32 → mm_Hp → Nat} {rv : Int32 → Int32 → mm_Hp → Int32} (as : List Value) (hp : mm_Hp) (h : (cs2 r P tx rv).2.2.2.1 as hp) : ∀ v ∈ as, mm_c1 v = true := by
  obtain ⟨a, b, rfl, -⟩ := cs2_s h
  intro v hv
  simp at hv
  rcases hv with rfl | rfl <;> rfl
theorem cs3_c {r : Nat} {P : Int32 → Int32 → Int32 → mm_Hp → Prop} {tx : Int32 → Int32 → Int32 → mm_Hp → Nat} {rv : Int32 → Int32 → Int32 → mm_Hp → Int32} (as : List Value) (hp : mm_Hp) (h : (cs3 r P tx rv).2.2.2.1 as hp) : ∀ v ∈ as, mm_c1 v = true := by
  obtain ⟨a, b, c, rfl, -⟩ := cs3_s h
  intro v hv
  simp at hv
  rcases hv with rfl | rfl | rfl <;> rfl
/-- n rounds of a loop -/
def lp {α : Type} (f : Nat → α → α) : Nat → α → α
  | 0, a => a
  | n + 1, a => f n (lp f n a)
theorem at1 {α : Type} {p pc : Nat} {x y : α} (h : cond (Nat.beq pc p) (some x) none = some y) : pc = p ∧ x = y := by
  cases hb : Nat.beq pc p with
  | true => rw [hb] at h; exact ⟨Nat.eq_of_beq_eq_true hb, Option.some.inj h⟩
  | false => rw [hb] at h; cases h
theorem at2 {α : Type} {p p2 pc : Nat} {x x2 y : α} (h : cond (Nat.beq pc p) (some x) (cond (Nat.beq pc p2) (some x2) none) = some y) : (pc = p ∧ x = y) ∨ (pc = p2 ∧ x2 = y) := by
  cases hb : Nat.beq pc p with
  | true => rw [hb] at h; exact Or.inl ⟨Nat.eq_of_beq_eq_true hb, Option.some.inj h⟩
  | false => rw [hb] at h; exact Or.inr (at1 h)
theorem at3 {α : Type} {p p2 p3 pc : Nat} {x x2 x3 y : α} (h : cond (Nat.beq pc p) (some x) (cond (Nat.beq pc p2) (some x2) (cond (Nat.beq pc p3) (some x3) none)) = some y) : (pc = p ∧ x = y) ∨ (pc = p2 ∧ x2 = y) ∨ (pc = p3 ∧ x3 = y) := by
  cases hb : Nat.beq pc p with
  | true => rw [hb] at h; exact Or.inl ⟨Nat.eq_of_beq_eq_true hb, Option.some.inj h⟩
  | false => rw [hb] at h; exact Or.inr (at2 h)
/-- what is left of a loop whose counter is the local k, up to N -/
def msk (N k : Nat) (L : mm_Loc) : Nat := match L[k]? with
  | some (some (.int x)) => N - x.toNatClampNeg
  | _ => 0
theorem nIc {n : Nat} (h : n ≤ 4000) : (nI n).toNatClampNeg = n := nI_clamp (by omega)
theorem nIv {i n : Nat} (h : i < n) (hn : n ≤ 4000) : vp_in (nI i) n := vp_in_nI h (by omega)
/-- the coins: at most 80 -/
def szOk (hp : mm_Hp) : Prop := ∃ n, n ≤ 80 ∧ hp.1 1 7 = nI n
def szN (hp : mm_Hp) : Nat := (hp.1 1 7).toNatClampNeg
theorem szOk.eq {hp : mm_Hp} (h : szOk hp) : hp.1 1 7 = nI (szN hp) ∧ szN hp ≤ 80 := by
  obtain ⟨n, h1, h2⟩ := h
  have h3 : szN hp = n := by unfold szN; rw [h2]; exact nI_clamp (by omega)
  rw [h3]
  exact ⟨h2, h1⟩
theorem no0 {P : Prop} {e : Nat} (h : 0 = e + 1) : P := by omega
theorem dec1 {N i : Nat} {x : Int32} (ex : x = nI i) (hi : i < N) (hN : N ≤ 4000) : N - (x + 1).toNatClampNeg < N - x.toNatClampNeg := by
  rw [ex, nI_1, nIc (by omega), nIc (by omega)]
  omega
theorem inc1 {i : Nat} {x : Int32} (ex : x = nI i) : x + 1 = nI (i + 1) := by rw [ex, nI_1]
theorem cge {i n : Nat} {x y : Int32} (ex : x = nI i) (ey : y = nI n) (hi : i ≤ 4000) (hn : n ≤ 4000) (h : y ≤ x) : n ≤ i := by
  rw [ex, ey] at h
  exact (nI_leI (by omega) (by omega)).mp h
theorem clt {i n : Nat} {x y : Int32} (ex : x = nI i) (ey : y = nI n) (hi : i ≤ 4000) (hn : n ≤ 4000) (h : ¬ y ≤ x) : i < n := by
  rw [ex, ey] at h
  exact Nat.lt_of_not_le (fun q => h ((nI_leI (by omega) (by omega)).mpr q))
theorem inx {i n : Nat} {x : Int32} (ex : x = nI i) (h : i < n) (hn : n ≤ 4000) : vp_in x n := by rw [ex]; exact nIv h hn
theorem nx {i : Nat} {x : Int32} (ex : x = nI i) (h : i ≤ 4000) : x.toNatClampNeg = i := by rw [ex]; exact nIc h
theorem szE {hp : mm_Hp} (h : szOk hp) : ∃ n, n ≤ 80 ∧ hp.1 1 7 = nI n ∧ szN hp = n := ⟨szN hp, h.eq.2, h.eq.1, rfl⟩
