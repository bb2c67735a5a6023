/-! ===== DieGraphs: what its methods share; throws ===== -/
def thG (k t d : Nat) : Option Nat := match mm_look t strG with
  | none => none
  | some _ => cond (Nat.beq k 43 && Nat.beq d 47) (some 0) (cond (Nat.beq k 53 && Nat.beq d 57) (some 1) (cond (Nat.beq k 62 && Nat.beq d 66) (some 2) none))
def upN : List String := ["java/lang/RuntimeException", "java/lang/Exception"]
theorem thG_0 : ∀ w ∈ Jvm.Cond.classLink RX4 43 (mm_kind 0) :: Jvm.Cond.initialized (mm_kind 0) :: vx_atS RX4 47 (mm_kind 0) upN, (w ∈ tbl ∨ w ∈ ntG) ∧ vx_ot w = true := by decide +kernel
theorem thG_1 : ∀ w ∈ Jvm.Cond.classLink RX4 53 (mm_kind 1) :: Jvm.Cond.initialized (mm_kind 1) :: vx_atS RX4 57 (mm_kind 1) upN, (w ∈ tbl ∨ w ∈ ntG) ∧ vx_ot w = true := by decide +kernel
theorem thG_2 : ∀ w ∈ Jvm.Cond.classLink RX4 62 (mm_kind 2) :: Jvm.Cond.initialized (mm_kind 2) :: vx_atS RX4 66 (mm_kind 2) upN, (w ∈ tbl ∨ w ∈ ntG) ∧ vx_ot w = true := by decide +kernel
theorem thG_ok {E : En} (hE : EOk E) : mm_thrSt RX4 tbl E.2.2.2.2 thG := by
  intro k t d x h
  unfold thG at h
  split at h
  · cases h
  · rename_i text ht
    obtain ⟨sa, hsa⟩ := hE.2.1 _ (mm_look_in ht)
    have hn : ∀ n ∈ upN, Bundle.fit n = true := by decide +kernel
    cases h1 : (Nat.beq k 43 && Nat.beq d 47) with
    | true =>
      rw [h1] at h
      cases h
      simp only [Bool.and_eq_true] at h1
      cases Nat.eq_of_beq_eq_true h1.1
      cases Nat.eq_of_beq_eq_true h1.2
      exact ⟨text, sa, upN, hsa, by decide +kernel, hn, by decide, fun w hw => ⟨(thG_0 w hw).1.imp id (hE.2.2 w), (thG_0 w hw).2⟩⟩
    | false =>
      rw [h1] at h
      simp only [cond] at h
      cases h2 : (Nat.beq k 53 && Nat.beq d 57) with
      | true =>
        rw [h2] at h
        cases h
        simp only [Bool.and_eq_true] at h2
        cases Nat.eq_of_beq_eq_true h2.1
        cases Nat.eq_of_beq_eq_true h2.2
        exact ⟨text, sa, upN, hsa, by decide +kernel, hn, by decide, fun w hw => ⟨(thG_1 w hw).1.imp id (hE.2.2 w), (thG_1 w hw).2⟩⟩
      | false =>
        rw [h2] at h
        simp only [] at h
        cases h3 : (Nat.beq k 62 && Nat.beq d 66) with
        | true =>
          rw [h3] at h
          cases h
          simp only [Bool.and_eq_true] at h3
          cases Nat.eq_of_beq_eq_true h3.1
          cases Nat.eq_of_beq_eq_true h3.2
          exact ⟨text, sa, upN, hsa, by decide +kernel, hn, by decide, fun w hw => ⟨(thG_2 w hw).1.imp id (hE.2.2 w), (thG_2 w hw).2⟩⟩
        | false =>
          rw [h3] at h
          cases h
def xxG (tab : mm_Tab) (cals : List (Nat × mm_Ct)) : mm_Cx := (tab, lay, none, fun k => mm_look k flG, fun k => mm_look k pfG, fun st k => mm_look (cond st (2 * k + 1) (2 * k)) cals, thG, fun _ _ => none, fun k => mm_look k csG)
theorem metG {E : En} (hE : EOk E) {y : MethodName} {cc : ByteArray} {nL d n : Nat} {ret : Option FieldType} {ct : mm_Ct} {tab : mm_Tab} {cals : List (Nat × mm_Ct)} (hown : y.cls = RX4) (hy : plainName y.cls = true) (hd : 6 ≤ d) (htab : mm_tok cc tab) (h0 : mm_pc tab = 0) (hcal : Calls E RX4 d cals)
    (hret : (ct.2.1 = 0 ∧ ret = none) ∨ (ct.2.1 = 1 ∧ ∃ ty, ret = some ty ∧ ∀ as hp, ct.2.2.2.1 as hp → narrow ty (.int (ct.2.2.2.2.2.1 as hp)) = .int (ct.2.2.2.2.2.1 as hp))) (hc1 : ∀ as hp, ct.2.2.2.1 as hp → ∀ v ∈ as, mm_c1 v = true) (hnl : ct.1 ≤ nL) (hun : ct.2.2.1 = 0)
    (Inv : List Value → mm_Hp → Nat → Option (mm_Loc → mm_Hp → Prop)) (ms : Nat → mm_Loc → mm_Hp → Nat)
    (hent : ∀ as hp, as.length = ct.1 → ct.2.2.2.1 as hp → mm_wp (xxG tab cals) (Inv as hp, mm_Rt ct as hp, mm_Tx ct as hp, 0) n tab (as.map some ++ List.replicate (nL - as.length) none) [] hp 0)
    (hinv : ∀ as hp, as.length = ct.1 → ct.2.2.2.1 as hp → ∀ pc P, Inv as hp pc = some P → ∀ L hp', P L hp' → L.length = nL → mm_wp (xxG tab cals) (mm_K (Inv as hp) ms (ms pc L hp'), mm_Rt ct as hp, mm_Tx ct as hp, 0) n (mm_at tab pc) L [] hp' 0) : Mt E y cc nL ret d ct := by
  refine mm_met (X := xxG tab cals) (n := n) hy hE.1 htab h0 rfl (fun _ _ => rfl) (by rw [hown]; exact flG_ok) (by rw [hown]; exact pfG_ok) (by rw [hown]; exact csG_ok) (by rw [hown]; exact thG_ok hE) (fun u => ⟨rfl, rfl⟩) (Or.inr (fun u => ⟨hd, ?_⟩)) (fun u p e s m args below meth c A hin st k ct' h => hcal st k ct' h u p e s m args below meth c cc nL A (by rw [hown] at hin; exact hin)) hret hc1 hnl hun Inv ms ?_ ?_
  · show 82 ≤ 33 * d
    omega
  · rw [hun]; exact hent
  · rw [hun]; exact hinv
theorem metGS {E : En} (hE : EOk E) {y : MethodName} {cc : ByteArray} {nL d n : Nat} {ret : Option FieldType} {ct : mm_Ct} {tab : mm_Tab} {cals : List (Nat × mm_Ct)} (hown : y.cls = RX4) (hy : plainName y.cls = true) (hd : 6 ≤ d) (htab : mm_tok cc tab) (h0 : mm_pc tab = 0) (hcal : Calls E RX4 d cals)
    (hret : (ct.2.1 = 0 ∧ ret = none) ∨ (ct.2.1 = 1 ∧ ∃ ty, ret = some ty ∧ ∀ as hp, ct.2.2.2.1 as hp → narrow ty (.int (ct.2.2.2.2.2.1 as hp)) = .int (ct.2.2.2.2.2.1 as hp))) (hc1 : ∀ as hp, ct.2.2.2.1 as hp → ∀ v ∈ as, mm_c1 v = true) (hnl : ct.1 ≤ nL) (hun : ct.2.2.1 = 0)
    (hent : ∀ as hp, as.length = ct.1 → ct.2.2.2.1 as hp → mm_wp (xxG tab cals) (fun _ => none, mm_Rt ct as hp, mm_Tx ct as hp, 0) n tab (as.map some ++ List.replicate (nL - as.length) none) [] hp 0) : Mt E y cc nL ret d ct :=
  metG (n := n) hE hown hy hd htab h0 hcal hret hc1 hnl hun (fun _ _ _ => none) (fun _ _ _ => 0) hent (fun _ _ _ _ _ _ h => by cases h)
def sG_contains : mm_Ct := cs2 1 (fun _ _ _ => True) (fun _ _ _ => 0) (fun s d _ => if bitAt s d = 0 then 0 else 1)
theorem M_G_contains {E : En} (hE : EOk E) : Mt E yG_contains cG_contains 2 (some .boolean) 1 sG_contains :=
  metS (n := 20) (tab := tG_contains) (cals := []) hE flG_ok pfG_ok csG_ok rfl (by decide) kG_contains rfl cf_nil (rt_z rfl (fun as hp h => by obtain ⟨a, b, rfl, -⟩ := cs2_s h; exact isB_if)) cs2_c (by decide) rfl (fun as hp hl h => by
    obtain ⟨s, d, rfl, hP⟩ := cs2_s h
    refine ⟨fun c5 => ⟨rfl, ?_, rfl⟩, fun c5 => ⟨rfl, ?_, rfl⟩⟩
    · exact congrArg some (if_pos c5).symm
    · exact congrArg some (if_neg c5).symm)
/-- Euclid's steps, at most n -/
def eucl : Nat → Int32 → Int32 → Int32
  | 0, x, _ => x
  | n + 1, x, y => if y = 0 then x else eucl n y (x - x / y * y)
theorem eucl_0 (n : Nat) (x : Int32) : eucl n x 0 = x := by cases n <;> rfl
def sG_commonDivisor : mm_Ct := cs2 1 (fun _ _ _ => True) (fun _ _ _ => 0) (fun a b _ => eucl 64 a b)
theorem M_G_commonDivisor {E : En} (hE : EOk E) : Mt E yG_commonDivisor cG_commonDivisor 6 (some .int) 1 sG_commonDivisor :=
  met (n := 40) (tab := tG_commonDivisor) (cals := []) hE flG_ok pfG_ok csG_ok rfl (by decide) kG_commonDivisor rfl cf_nil (rt_i rfl) cs2_c (by decide) rfl
    (fun as hp pc => cond (Nat.beq pc 7) (some (fun L hp' => hp' = hp ∧ ∃ (a b : Int32) (i : Nat) (x y z : Int32) (o : Option Value), as = [.int a, .int b] ∧ L = [some (.int a), some (.int b), some (.int x), some (.int y), some (.int z), o] ∧ z = nI i ∧ i ≤ 64 ∧ eucl (64 - i) x y = eucl 64 a b)) none) (fun _ L _ => msk 100 4 L)
    (fun as hp hl h => by
      obtain ⟨a, b, rfl, hP⟩ := cs2_s h
      exact ⟨rfl, rfl, a, b, 0, _, _, _, _, rfl, rfl, rfl, by omega, rfl⟩)
    (fun as hp hl h pc P hq L hp' hL _ => by
      obtain ⟨a, b, rfl, hP⟩ := cs2_s h
      obtain ⟨rfl, rfl⟩ := at1 hq
      obtain ⟨rfl, a', b', i, x, y, z, o, heq, rfl, ez, hi, ee⟩ := hL
      cases heq
      refine ⟨fun c11 => ⟨rfl, ?_, rfl⟩, fun c11 => ⟨fun c15 => ⟨rfl, ?_, rfl⟩, fun c15 => ⟨c15, ⟨rfl, ⟨rfl, a, b, i + 1, _, _, _, _, rfl, rfl, inc1 ez, ?_, ?_⟩, dec1 ez (by omega) (by omega)⟩⟩⟩⟩
      · have := cge ez (n := 64) rfl (by omega) (by omega) c11
        have hi2 : i = 64 := by omega
        subst hi2
        exact congrArg some ee
      · have c15 : y = 0 := c15
        subst c15
        rw [eucl_0] at ee
        exact congrArg some ee
      · have := clt ez (n := 64) rfl (by omega) (by omega) c11
        omega
      · have := clt ez (n := 64) rfl (by omega) (by omega) c11
        rw [← ee, show 64 - i = (64 - (i + 1)) + 1 by omega]
        show _ = (if y = 0 then x else eucl (64 - (i + 1)) y (x - x / y * y))
        rw [if_neg c15])
def fLess (a b p : Int32) : Int32 := if eucl 64 a b = 0 then (if p = 0 then a else b) else (if p = 0 then a else b) / eucl 64 a b
def sG_lessened : mm_Ct := cs3 1 (fun _ _ _ _ => True) (fun _ _ _ _ => 0) (fun a b p _ => fLess a b p)
theorem M_G_lessened {E : En} (hE : EOk E) : Mt E yG_lessened cG_lessened 5 (some .int) 2 sG_lessened :=
  metS (n := 40) (tab := tG_lessened) (cals := [(431, sG_commonDivisor)]) hE flG_ok pfG_ok csG_ok rfl (by decide) kG_lessened rfl (cf_s 215 (lG_215 (M_G_commonDivisor hE) (by decide) rfl) cf_nil) (rt_i rfl) cs3_c (by decide) rfl (fun as hp hl h => by
    obtain ⟨a, b, q, rfl, hP⟩ := cs3_s h
    refine ⟨trivial, fun r2 => ⟨fun c7 => ⟨fun c18 => ⟨c18, ⟨rfl, ?_, rfl⟩⟩, fun c18 => ⟨rfl, ?_, rfl⟩⟩, fun c7 => ⟨fun c18 => ⟨c18, ⟨rfl, ?_, rfl⟩⟩, fun c18 => ⟨rfl, ?_, rfl⟩⟩⟩, fun e2 x2 => no0 x2⟩
    · have c18 : ¬ eucl 64 a b = 0 := c18
      show some (b / eucl 64 a b) = some (fLess a b q)
      unfold fLess
      rw [if_neg c18, if_neg c7]
    · have c18 : eucl 64 a b = 0 := c18
      show some b = some (fLess a b q)
      unfold fLess
      rw [if_pos c18, if_neg c7]
    · have c18 : ¬ eucl 64 a b = 0 := c18
      show some (a / eucl 64 a b) = some (fLess a b q)
      unfold fLess
      rw [if_neg c18, if_pos c7]
    · have c18 : eucl 64 a b = 0 := c18
      show some a = some (fLess a b q)
      unfold fLess
      rw [if_pos c18, if_pos c7])
def xCoin (c : Int32) (hp : mm_Hp) : Nat := if c < 0 ∨ hp.1 1 7 ≤ c then 1 else 0
theorem nlt_ge {x y : Int32} (h : ¬ x < y) : y ≤ x := by
  rw [Int32.le_iff_toInt_le]
  rw [Int32.lt_iff_toInt_lt] at h
  omega
theorem lt_nge {x y : Int32} (h : x < y) : ¬ y ≤ x := by
  rw [Int32.le_iff_toInt_le]
  rw [Int32.lt_iff_toInt_lt] at h
  omega
def sG_requireCoin : mm_Ct := ct1 0 0 (fun _ _ => True) xCoin (fun _ _ => 0) (fun _ hp => hp)
theorem M_G_requireCoin {E : En} (hE : EOk E) : Mt E yG_requireCoin cG_requireCoin 2 none 6 sG_requireCoin :=
  metGS (n := 40) (tab := tG_requireCoin) (cals := [(116, sC_size)]) hE rfl (by decide) (by decide) kG_requireCoin rfl (cf_v 58 (lG_58 (M_C_size hE) (by decide) ct0_t rfl) cf_nil) (rt_v rfl) ct1_c (by decide) rfl (fun as hp hl h => by
    obtain ⟨c, rfl, hP⟩ := ct1_s h
    refine ⟨fun c1 => ⟨rfl, ?_, rfl⟩, fun c1 => ⟨⟨rfl, trivial⟩, fun r9 => ⟨fun c12 => ⟨?_, rfl, rfl⟩, fun c12 => ⟨rfl, ?_, rfl⟩⟩, fun e9 x9 => no0 x9⟩⟩
    · exact if_pos (Or.inl c1)
    · exact if_neg (fun q => q.elim c1 (lt_nge c12))
    · exact if_pos (Or.inr (nlt_ge c12)))
def xHoard (c : Int32) (hp : mm_Hp) : Nat := if c < 0 ∨ hp.1 0 4 ≤ c then 1 else 0
def sG_requireHoard : mm_Ct := ct1 0 0 (fun _ _ => True) xHoard (fun _ _ => 0) (fun _ hp => hp)
theorem M_G_requireHoard {E : En} (hE : EOk E) : Mt E yG_requireHoard cG_requireHoard 2 none 6 sG_requireHoard :=
  metGS (n := 40) (tab := tG_requireHoard) (cals := []) hE rfl (by decide) (by decide) kG_requireHoard rfl cf_nil (rt_v rfl) ct1_c (by decide) rfl (fun as hp hl h => by
    obtain ⟨c, rfl, hP⟩ := ct1_s h
    refine ⟨fun c1 => ⟨rfl, ?_, rfl⟩, fun c1 => ⟨fun c12 => ⟨?_, rfl, rfl⟩, fun c12 => ⟨rfl, ?_, rfl⟩⟩⟩
    · exact if_pos (Or.inl c1)
    · exact if_neg (fun q => q.elim c1 (lt_nge c12))
    · exact if_pos (Or.inr (nlt_ge c12)))
def xDie (c : Int32) : Nat := if c < 0 ∨ 32 ≤ c then 1 else 0
def sG_requireDie : mm_Ct := cs1 0 (fun _ _ => True) (fun c _ => xDie c) (fun _ _ => 0)
theorem M_G_requireDie {E : En} (hE : EOk E) : Mt E yG_requireDie cG_requireDie 1 none 6 sG_requireDie :=
  metGS (n := 40) (tab := tG_requireDie) (cals := []) hE rfl (by decide) (by decide) kG_requireDie rfl cf_nil (rt_v rfl) cs1_c (by decide) rfl (fun as hp hl h => by
    obtain ⟨c, rfl, hP⟩ := cs1_s h
    refine ⟨fun c1 => ⟨rfl, ?_, rfl⟩, fun c1 => ⟨fun c12 => ⟨?_, rfl, rfl⟩, fun c12 => ⟨rfl, ?_, rfl⟩⟩⟩
    · exact if_pos (Or.inl c1)
    · exact if_neg (fun q => q.elim c1 (lt_nge c12))
    · exact if_pos (Or.inr (nlt_ge c12)))
def xSide (c : Int32) : Nat := if c = 0 ∨ c = 1 then 0 else 1
def sG_requireSide : mm_Ct := cs1 0 (fun _ _ => True) (fun c _ => xSide c) (fun _ _ => 0)
theorem M_G_requireSide {E : En} (hE : EOk E) : Mt E yG_requireSide cG_requireSide 1 none 6 sG_requireSide :=
  metGS (n := 40) (tab := tG_requireSide) (cals := []) hE rfl (by decide) (by decide) kG_requireSide rfl cf_nil (rt_v rfl) cs1_c (by decide) rfl (fun as hp hl h => by
    obtain ⟨c, rfl, hP⟩ := cs1_s h
    refine ⟨fun c1 => ⟨?_, rfl, rfl⟩, fun c1 => ⟨fun c6 => ⟨?_, rfl, rfl⟩, fun c6 => ⟨rfl, ?_, rfl⟩⟩⟩
    · exact if_pos (Or.inl c1)
    · exact if_pos (Or.inr c6)
    · exact if_neg (fun q => q.elim c1 c6))
theorem M_G_requirePart {E : En} (hE : EOk E) : Mt E yG_requirePart cG_requirePart 1 none 6 sG_requireSide :=
  metGS (n := 40) (tab := tG_requirePart) (cals := []) hE rfl (by decide) (by decide) kG_requirePart rfl cf_nil (rt_v rfl) cs1_c (by decide) rfl (fun as hp hl h => by
    obtain ⟨c, rfl, hP⟩ := cs1_s h
    refine ⟨fun c1 => ⟨?_, rfl, rfl⟩, fun c1 => ⟨fun c6 => ⟨?_, rfl, rfl⟩, fun c6 => ⟨rfl, ?_, rfl⟩⟩⟩
    · exact if_pos (Or.inl c1)
    · exact if_pos (Or.inr c6)
    · exact if_neg (fun q => q.elim c1 c6))
def xPlace (c : Int32) : Nat := if 0 ≤ c then 0 else 1
def sG_requirePlace : mm_Ct := cs1 0 (fun _ _ => True) (fun c _ => xPlace c) (fun _ _ => 0)
theorem M_G_requirePlace {E : En} (hE : EOk E) : Mt E yG_requirePlace cG_requirePlace 1 none 6 sG_requirePlace :=
  metGS (n := 40) (tab := tG_requirePlace) (cals := []) hE rfl (by decide) (by decide) kG_requirePlace rfl cf_nil (rt_v rfl) cs1_c (by decide) rfl (fun as hp hl h => by
    obtain ⟨c, rfl, hP⟩ := cs1_s h
    refine ⟨fun c1 => ⟨?_, rfl, rfl⟩, fun c1 => ⟨rfl, ?_, rfl⟩⟩
    · exact if_pos c1
    · exact if_neg c1)
/-- 2: of two sides -/
def xOne (a b : Int32) : Nat := if 16 ≤ a ↔ 16 ≤ b then 0 else 2
def sG_requireOneSide : mm_Ct := cs2 0 (fun _ _ _ => True) (fun a b _ => xOne a b) (fun _ _ _ => 0)
theorem M_G_requireOneSide {E : En} (hE : EOk E) : Mt E yG_requireOneSide cG_requireOneSide 2 none 6 sG_requireOneSide :=
  metGS (n := 40) (tab := tG_requireOneSide) (cals := []) hE rfl (by decide) (by decide) kG_requireOneSide rfl cf_nil (rt_v rfl) cs2_c (by decide) rfl (fun as hp hl h => by
    obtain ⟨a, b, rfl, hP⟩ := cs2_s h
    refine ⟨fun c3 => ⟨fun c14 => ⟨fun c22 => ⟨?_, rfl, rfl⟩, fun c22 => ⟨rfl, ?_, rfl⟩⟩, fun c14 => ⟨fun c22 => ⟨?_, rfl, rfl⟩, fun c22 => ⟨rfl, ?_, rfl⟩⟩⟩, fun c3 => ⟨fun c14 => ⟨fun c22 => ⟨?_, rfl, rfl⟩, fun c22 => ⟨rfl, ?_, rfl⟩⟩, fun c14 => ⟨fun c22 => ⟨?_, rfl, rfl⟩, fun c22 => ⟨rfl, ?_, rfl⟩⟩⟩⟩
    · exact if_pos ⟨fun _ => c14, fun _ => c3⟩
    · exact absurd rfl c22
    · exact absurd c22 (by decide)
    · exact if_neg (fun q => c14 (q.mp c3))
    · exact absurd c22 (by decide)
    · exact if_neg (fun q => c3 (q.mpr c14))
    · exact if_pos ⟨fun q => absurd q c3, fun q => absurd q c14⟩
    · exact absurd rfl c22)
