/-! ===== the reference: its small methods ===== -/
theorem rt_z1 {j : Nat} {P : Int32 → mm_Hp → Prop} {tx : Int32 → mm_Hp → Nat} {rv : Int32 → mm_Hp → Int32} {sg : Int32 → mm_Hp → mm_Hp} (hb : ∀ a hp, P a hp → isB (rv a hp)) : ((ct1 j 1 P tx rv sg).2.1 = 0 ∧ (some FieldType.boolean) = none) ∨ ((ct1 j 1 P tx rv sg).2.1 = 1 ∧ ∃ ty, some FieldType.boolean = some ty ∧ ∀ as hp, (ct1 j 1 P tx rv sg).2.2.2.1 as hp → narrow ty (.int ((ct1 j 1 P tx rv sg).2.2.2.2.2.1 as hp)) = .int ((ct1 j 1 P tx rv sg).2.2.2.2.2.1 as hp)) :=
  rt_z rfl (fun as hp h => by obtain ⟨a, rfl, hP⟩ := ct1_s h; exact hb a hp hP)
theorem rt_s1 {P : Int32 → mm_Hp → Prop} {tx : Int32 → mm_Hp → Nat} {rv : Int32 → mm_Hp → Int32} (hb : ∀ a hp, P a hp → isB (rv a hp)) : ((cs1 1 P tx rv).2.1 = 0 ∧ (some FieldType.boolean) = none) ∨ ((cs1 1 P tx rv).2.1 = 1 ∧ ∃ ty, some FieldType.boolean = some ty ∧ ∀ as hp, (cs1 1 P tx rv).2.2.2.1 as hp → narrow ty (.int ((cs1 1 P tx rv).2.2.2.2.2.1 as hp)) = .int ((cs1 1 P tx rv).2.2.2.2.2.1 as hp)) :=
  rt_z rfl (fun as hp h => by obtain ⟨a, rfl, hP⟩ := cs1_s h; exact hb a hp hP)
theorem rt_s3 {P : Int32 → Int32 → Int32 → mm_Hp → Prop} {tx : Int32 → Int32 → Int32 → mm_Hp → Nat} {rv : Int32 → Int32 → Int32 → mm_Hp → Int32} (hb : ∀ a b c hp, P a b c hp → isB (rv a b c hp)) : ((cs3 1 P tx rv).2.1 = 0 ∧ (some FieldType.boolean) = none) ∨ ((cs3 1 P tx rv).2.1 = 1 ∧ ∃ ty, some FieldType.boolean = some ty ∧ ∀ as hp, (cs3 1 P tx rv).2.2.2.1 as hp → narrow ty (.int ((cs3 1 P tx rv).2.2.2.2.2.1 as hp)) = .int ((cs3 1 P tx rv).2.2.2.2.2.1 as hp)) :=
  rt_z rfl (fun as hp h => by obtain ⟨a, b, c, rfl, hP⟩ := cs3_s h; exact hb a b c hp hP)
def sM_thrown : mm_Ct := ct0 25 1 (fun _ => True) (fun _ => 0) (fun hp => hp.1 25 0) (fun hp => hp)
theorem M_M_thrown {E : En} (hE : EOk E) : Mt E yM_thrown cM_thrown 1 (some .int) 1 sM_thrown :=
  metS (n := 20) (tab := tM_thrown) (cals := []) hE flM_ok pfM_ok csM_ok rfl (by decide) kM_thrown rfl cf_nil (rt_i rfl) ct0_c (by decide) rfl (fun as hp hl h => by
    obtain ⟨rfl, hP⟩ := ct0_s h
    exact ⟨rfl, rfl, rfl⟩)
/-- what goes() notes: 1, 2 or 3, the first that is 0; else 0 -/
def fGo (a b c : Int32) : Int32 := if a = 0 then 1 else if b = 0 then 2 else if c = 0 then 3 else 0
def setT (v : Int32) (hp : mm_Hp) : mm_Hp := (mm_up hp.1 25 0 v, hp.2)
def sM_goes : mm_Ct := ct3 25 1 (fun _ _ _ _ => True) (fun _ _ _ _ => 0) (fun a b c _ => if fGo a b c = 0 then 1 else 0) (fun a b c hp => setT (fGo a b c) hp)
theorem M_M_goes {E : En} (hE : EOk E) : Mt E yM_goes cM_goes 4 (some .boolean) 1 sM_goes :=
  metS (n := 40) (tab := tM_goes) (cals := []) hE flM_ok pfM_ok csM_ok rfl (by decide) kM_goes rfl cf_nil (rt_z3 (fun _ _ _ _ _ => isB_fi)) ct3_c (by decide) rfl (fun as hp hl h => by
    obtain ⟨a, b, c, rfl, hP⟩ := ct3_s h
    have K : ∀ v w : Int32, fGo a b c = v → (if v = 0 then 1 else 0) = w → (0 : Nat) = 0 ∧ some w = some (if fGo a b c = 0 then (1 : Int32) else 0) ∧ (mm_up hp.1 25 0 v, hp.2) = setT (fGo a b c) hp := fun v w h1 h2 => by rw [h1, h2]; exact ⟨rfl, rfl, rfl⟩
    refine ⟨fun c2 => ⟨fun c10 => ⟨fun c18 => ⟨fun c33 => absurd rfl c33, fun c33 => ?_⟩, fun c18 => ⟨fun c33 => ?_, fun c33 => absurd (show (3 : Int32) = 0 from c33) (by decide)⟩⟩, fun c10 => ⟨fun c33 => ?_, fun c33 => absurd (show (2 : Int32) = 0 from c33) (by decide)⟩⟩, fun c2 => ⟨fun c33 => ?_, fun c33 => absurd (show (1 : Int32) = 0 from c33) (by decide)⟩⟩
    · exact K 0 1 (by unfold fGo; rw [if_neg c2, if_neg c10, if_neg c18]) rfl
    · exact K 3 0 (by unfold fGo; rw [if_neg c2, if_neg c10, if_pos c18]) rfl
    · exact K 2 0 (by unfold fGo; rw [if_neg c2, if_pos c10]) rfl
    · exact K 1 0 (by unfold fGo; rw [if_pos c2]) rfl)
def fWi (v l h : Int32) : Int32 := if v < l ∨ h < v then 0 else 1
def sM_within : mm_Ct := cs3 1 (fun _ _ _ _ => True) (fun _ _ _ _ => 0) (fun v l h _ => fWi v l h)
theorem M_M_within {E : En} (hE : EOk E) : Mt E yM_within cM_within 3 (some .boolean) 1 sM_within :=
  metS (n := 40) (tab := tM_within) (cals := []) hE flM_ok pfM_ok csM_ok rfl (by decide) kM_within rfl cf_nil (rt_s3 (fun _ _ _ _ _ => isB_if)) cs3_c (by decide) rfl (fun as hp hl h => by
    obtain ⟨v, l, u, rfl, hP⟩ := cs3_s h
    refine ⟨fun c2 => ⟨rfl, ?_, rfl⟩, fun c2 => ⟨fun c7 => ⟨rfl, ?_, rfl⟩, fun c7 => ⟨rfl, ?_, rfl⟩⟩⟩
    · exact congrArg some (if_pos (Or.inl c2)).symm
    · exact congrArg some (if_pos (Or.inr c7)).symm
    · exact congrArg some (if_neg (fun q => q.elim c2 c7)).symm)
def fIc (c : Int32) (hp : mm_Hp) : Int32 := if c < 0 ∨ hp.1 25 1 ≤ c then 0 else 1
def sM_isCoin : mm_Ct := ct1 25 1 (fun _ _ => True) (fun _ _ => 0) fIc (fun _ hp => hp)
theorem M_M_isCoin {E : En} (hE : EOk E) : Mt E yM_isCoin cM_isCoin 2 (some .boolean) 1 sM_isCoin :=
  metS (n := 40) (tab := tM_isCoin) (cals := []) hE flM_ok pfM_ok csM_ok rfl (by decide) kM_isCoin rfl cf_nil (rt_z1 (fun _ _ _ => isB_if)) ct1_c (by decide) rfl (fun as hp hl h => by
    obtain ⟨c, rfl, hP⟩ := ct1_s h
    refine ⟨fun c2 => ⟨rfl, ?_, rfl⟩, fun c2 => ⟨fun c7 => ⟨rfl, ?_, rfl⟩, fun c7 => ⟨rfl, ?_, rfl⟩⟩⟩
    · exact congrArg some (if_pos (Or.inl c2)).symm
    · exact congrArg some (if_pos (Or.inr c7)).symm
    · exact congrArg some (if_neg (fun q => q.elim c2 c7)).symm)
def fIh (c : Int32) (hp : mm_Hp) : Int32 := if c < 0 ∨ hp.1 25 17 ≤ c then 0 else 1
def sM_isHoard : mm_Ct := ct1 25 1 (fun _ _ => True) (fun _ _ => 0) fIh (fun _ hp => hp)
theorem M_M_isHoard {E : En} (hE : EOk E) : Mt E yM_isHoard cM_isHoard 2 (some .boolean) 1 sM_isHoard :=
  metS (n := 40) (tab := tM_isHoard) (cals := []) hE flM_ok pfM_ok csM_ok rfl (by decide) kM_isHoard rfl cf_nil (rt_z1 (fun _ _ _ => isB_if)) ct1_c (by decide) rfl (fun as hp hl h => by
    obtain ⟨c, rfl, hP⟩ := ct1_s h
    refine ⟨fun c2 => ⟨rfl, ?_, rfl⟩, fun c2 => ⟨fun c7 => ⟨rfl, ?_, rfl⟩, fun c7 => ⟨rfl, ?_, rfl⟩⟩⟩
    · exact congrArg some (if_pos (Or.inl c2)).symm
    · exact congrArg some (if_pos (Or.inr c7)).symm
    · exact congrArg some (if_neg (fun q => q.elim c2 c7)).symm)
def fId (c : Int32) : Int32 := if c < 0 ∨ 32 ≤ c then 0 else 1
def sM_isDie : mm_Ct := cs1 1 (fun _ _ => True) (fun _ _ => 0) (fun c _ => fId c)
theorem M_M_isDie {E : En} (hE : EOk E) : Mt E yM_isDie cM_isDie 1 (some .boolean) 1 sM_isDie :=
  metS (n := 40) (tab := tM_isDie) (cals := []) hE flM_ok pfM_ok csM_ok rfl (by decide) kM_isDie rfl cf_nil (rt_s1 (fun _ _ _ => isB_if)) cs1_c (by decide) rfl (fun as hp hl h => by
    obtain ⟨c, rfl, hP⟩ := cs1_s h
    refine ⟨fun c2 => ⟨rfl, ?_, rfl⟩, fun c2 => ⟨fun c7 => ⟨rfl, ?_, rfl⟩, fun c7 => ⟨rfl, ?_, rfl⟩⟩⟩
    · exact congrArg some (if_pos (Or.inl c2)).symm
    · exact congrArg some (if_pos (Or.inr c7)).symm
    · exact congrArg some (if_neg (fun q => q.elim c2 c7)).symm)
def fIs (c : Int32) : Int32 := if c = 0 ∨ c = 1 then 1 else 0
def sM_isSide : mm_Ct := cs1 1 (fun _ _ => True) (fun _ _ => 0) (fun c _ => fIs c)
theorem M_M_isSide {E : En} (hE : EOk E) : Mt E yM_isSide cM_isSide 1 (some .boolean) 1 sM_isSide :=
  metS (n := 40) (tab := tM_isSide) (cals := []) hE flM_ok pfM_ok csM_ok rfl (by decide) kM_isSide rfl cf_nil (rt_s1 (fun _ _ _ => isB_fi)) cs1_c (by decide) rfl (fun as hp hl h => by
    obtain ⟨c, rfl, hP⟩ := cs1_s h
    refine ⟨fun c2 => ⟨rfl, ?_, rfl⟩, fun c2 => ⟨fun c7 => ⟨rfl, ?_, rfl⟩, fun c7 => ⟨rfl, ?_, rfl⟩⟩⟩
    · exact congrArg some (if_pos (Or.inl c2)).symm
    · exact congrArg some (if_neg (fun q => q.elim c2 c7)).symm
    · exact congrArg some (if_pos (Or.inr c7)).symm)
def sM_dieOf : mm_Ct := ct2 25 1 (fun c _ _ => vp_in c 80) (fun _ _ _ => 0) (fun c s hp => if s = 0 then hp.1 26 c.toNatClampNeg else hp.1 27 c.toNatClampNeg) (fun _ _ hp => hp)
theorem M_M_dieOf {E : En} (hE : EOk E) : Mt E yM_dieOf cM_dieOf 3 (some .int) 1 sM_dieOf :=
  metS (n := 20) (tab := tM_dieOf) (cals := []) hE flM_ok pfM_ok csM_ok rfl (by decide) kM_dieOf rfl cf_nil (rt_i rfl) ct2_c (by decide) rfl (fun as hp hl h => by
    obtain ⟨c, s, rfl, hP⟩ := ct2_s h
    refine ⟨fun hs => ⟨hP, rfl, ?_, rfl⟩, fun hs => ⟨hP, rfl, ?_, rfl⟩⟩
    · exact congrArg some (if_neg hs).symm
    · exact congrArg some (if_pos hs).symm)
def sM_told : mm_Ct := ct1 25 1 (fun _ _ => True) (fun _ _ => 0) (fun p hp => if p = 0 then hp.1 25 24 else hp.1 25 25) (fun _ hp => hp)
theorem M_M_told {E : En} (hE : EOk E) : Mt E yM_told cM_told 2 (some .int) 1 sM_told :=
  metS (n := 20) (tab := tM_told) (cals := []) hE flM_ok pfM_ok csM_ok rfl (by decide) kM_told rfl cf_nil (rt_i rfl) ct1_c (by decide) rfl (fun as hp hl h => by
    obtain ⟨p, rfl, hP⟩ := ct1_s h
    refine ⟨fun hs => ⟨rfl, ?_, rfl⟩, fun hs => ⟨rfl, ?_, rfl⟩⟩
    · exact congrArg some (if_neg hs).symm
    · exact congrArg some (if_pos hs).symm)
def msv (k : Nat) (L : mm_Loc) : Nat := match L[k]? with
  | some (some (.int y)) => y.toNatClampNeg
  | _ => 0
/-- a fraction of naturals below 2^31, in its least terms -/
def lsN (a b : Int32) (hp : mm_Hp) : mm_Hp := (mm_up (mm_up hp.1 25 24 (nI (a.toNatClampNeg / Nat.gcd a.toNatClampNeg b.toNatClampNeg))) 25 25 (nI (b.toNatClampNeg / Nat.gcd a.toNatClampNeg b.toNatClampNeg)), hp.2)
theorem M_M_lessen_g {E : En} (hE : EOk E) (sg : Int32 → Int32 → mm_Hp → mm_Hp) (hsg : ∀ A B hp, A < 2 ^ 31 → B < 2 ^ 31 → sg (nI A) (nI B) hp = (mm_up (mm_up hp.1 25 24 (nI (A / Nat.gcd A B))) 25 25 (nI (B / Nat.gcd A B)), hp.2)) : Mt E yM_lessen cM_lessen 6 none 1 (ct2 25 0 (fun a b _ => (∃ A, A < 2 ^ 31 ∧ a = nI A) ∧ ∃ B, B < 2 ^ 31 ∧ b = nI B) (fun _ _ _ => 0) (fun _ _ _ => 0) sg) :=
  met (n := 60) (tab := tM_lessen) (cals := []) hE flM_ok pfM_ok csM_ok rfl (by decide) kM_lessen rfl cf_nil (rt_v rfl) ct2_c (Nat.le_of_ble_eq_true rfl) rfl
    (fun as hp pc => cond (Nat.beq pc 5) (some (fun L hp' => hp' = hp ∧ ∃ (A B X Y : Nat) (a b x y : Int32) (o : Option Value), A < 2 ^ 31 ∧ B < 2 ^ 31 ∧ X < 2 ^ 31 ∧ Y < 2 ^ 31 ∧ as = [.ref 25, .int a, .int b] ∧ a = nI A ∧ b = nI B ∧ L = [some (.ref 25), some (.int a), some (.int b), some (.int x), some (.int y), o] ∧ x = nI X ∧ y = nI Y ∧ Nat.gcd X Y = Nat.gcd A B)) none) (fun _ L _ => msv 4 L)
    (fun as hp hl h => by
      obtain ⟨a, b, rfl, ⟨A, hA, ea⟩, B, hB, eb⟩ := ct2_s h
      exact ⟨rfl, rfl, A, B, A, B, a, b, _, _, _, hA, hB, hA, hB, rfl, ea, eb, rfl, ea, eb, rfl⟩)
    (fun as hp hl h pc P hq L hp' hL _ => by
      obtain ⟨a, b, rfl, hP⟩ := ct2_s h
      obtain ⟨rfl, rfl⟩ := at1 hq
      obtain ⟨rfl, A, B, X, Y, a', b', x, y, o, hA, hB, hX, hY, heq, ea, eb, rfl, ex, ey, eg⟩ := hL
      cases heq
      have hs := hsg A B hp' hA hB
      refine ⟨fun c7 => ?_, fun c7 => ?_⟩
      · have c7 : y = 0 := c7
        have hY0 : Y = 0 := by
          rw [ey] at c7
          exact (nI_eq hY (by omega)).mp (c7.trans nI_0.symm)
        subst hY0
        rw [Nat.gcd_zero_right] at eg
        refine ⟨fun c28 => ⟨c28, ⟨fun c43 => ⟨c43, ⟨rfl, rfl, ?_⟩⟩, fun c43 => absurd c43 c28⟩⟩, fun c28 => ⟨fun c43 => absurd c28 c43, fun c43 => ⟨rfl, rfl, ?_⟩⟩⟩
        · have c28 : ¬ x = 0 := c28
          show (mm_up (mm_up hp'.1 25 24 (a / x)) 25 25 (b / x), hp'.2) = sg a b hp'
          have hX0 : 0 < X := Nat.pos_of_ne_zero (fun q => c28 (by rw [ex, q]; exact nI_0))
          rw [ea, eb, hs, ex, pk_div hA hX0 hX, pk_div hB hX0 hX, eg]
        · have c28 : x = 0 := c28
          have hX0 : X = 0 := by
            rw [ex] at c28
            exact (nI_eq hX (by omega)).mp (c28.trans nI_0.symm)
          show (mm_up (mm_up hp'.1 25 24 0) 25 25 0, hp'.2) = sg a b hp'
          rw [ea, eb, hs, ← eg, hX0, Nat.div_zero, Nat.div_zero]
          rfl
      · have c7 : ¬ y = 0 := c7
        have hY0 : 0 < Y := Nat.pos_of_ne_zero (fun q => c7 (by rw [ey, q]; exact nI_0))
        refine ⟨c7, ⟨rfl, ⟨rfl, A, B, Y, X % Y, a, b, _, _, _, hA, hB, hY, Nat.lt_trans (Nat.mod_lt _ hY0) hY, rfl, ea, eb, rfl, ey, ?_, ?_⟩, ?_⟩⟩
        · show x - x / y * y = _
          rw [ex, ey, pk_rem hX hY0 hY]
        · rw [← eg, Nat.gcd_comm Y, ← Nat.gcd_rec, Nat.gcd_comm]
        · show (x - x / y * y).toNatClampNeg < y.toNatClampNeg
          rw [ex, ey, pk_rem hX hY0 hY, nI_clamp (Nat.lt_trans (Nat.mod_lt _ hY0) hY), nI_clamp hY]
          exact Nat.mod_lt _ hY0)
def sM_lessen : mm_Ct := ct2 25 0 (fun a b _ => (∃ A, A < 2 ^ 31 ∧ a = nI A) ∧ ∃ B, B < 2 ^ 31 ∧ b = nI B) (fun _ _ _ => 0) (fun _ _ _ => 0) lsN
theorem M_M_lessen {E : En} (hE : EOk E) : Mt E yM_lessen cM_lessen 6 none 1 sM_lessen :=
  M_M_lessen_g hE lsN (fun A B hp hA hB => by unfold lsN; rw [nI_clamp hA, nI_clamp hB])
theorem x8 {i : Nat} {x : Int32} (ex : x = nI i) : 8 * x = nI (8 * i) := by rw [ex, show (8 : Int32) = nI 8 from rfl, pk_mul]
theorem M_M_signsOf {E : En} (hE : EOk E) : Mt E yM_signsOf cM_signsOf 3 (some .int) 1 sR_signsIn :=
  met (n := 60) (tab := tM_signsOf) (cals := []) hE flM_ok pfM_ok csM_ok rfl (by decide) kM_signsOf rfl cf_nil (rt_i rfl) cs1_c (by decide) rfl
    (fun as hp pc => cond (Nat.beq pc 4) (some (fun L hp' => hp' = hp ∧ ∃ (w : Int32) (i : Nat) (x a : Int32), as = [.int w] ∧ L = [some (.int w), some (.int a), some (.int x)] ∧ x = nI i ∧ i ≤ 4 ∧ a = lp (bSigns w) i 0)) none) (fun _ L _ => msk 100 2 L)
    (fun as hp hl h => by
      obtain ⟨w, rfl, hP⟩ := cs1_s h
      exact ⟨rfl, rfl, w, 0, _, _, rfl, rfl, rfl, by omega, rfl⟩)
    (fun as hp hl h pc P hq L hp' hL _ => by
      obtain ⟨rfl, rfl⟩ := at1 hq
      obtain ⟨rfl, w, i, x, a, rfl, rfl, ex, hi, ea⟩ := hL
      refine ⟨fun c7 => ⟨rfl, ?_, rfl⟩, fun c7 => ?_⟩
      · have := cge ex (n := 4) rfl (by omega) (by omega) c7
        have hi2 : i = 4 := by omega
        subst hi2
        exact congrArg some ea
      · have hlt := clt ex (n := 4) rfl (by omega) (by omega) c7
        have hstep : lp (bSigns w) (i + 1) 0 = bSigns w i a := by rw [ea]; rfl
        refine ⟨fun c17 => ⟨rfl, ⟨rfl, w, i + 1, _, _, rfl, rfl, inc1 ex, by omega, ?_⟩, dec1 ex (by omega) (by omega)⟩, fun c17 => ⟨rfl, ⟨rfl, w, i + 1, _, _, rfl, rfl, inc1 ex, by omega, ?_⟩, dec1 ex (by omega) (by omega)⟩⟩
        · have c17 : ¬ (w.toUInt32 >>> ((8 * x).toUInt32 &&& Int32.toUInt32 31)).toInt32 &&& 255 = 0 := c17
          rw [x8 ex] at c17
          rw [hstep]
          exact (if_neg c17).symm
        · have c17 : (w.toUInt32 >>> ((8 * x).toUInt32 &&& Int32.toUInt32 31)).toInt32 &&& 255 = 0 := c17
          rw [x8 ex] at c17
          rw [hstep]
          exact (if_pos c17).symm)
/-- the reference's text -/
def mtxOk (hp : mm_Hp) : Prop := ∃ t, t ≤ 40 ∧ hp.1 25 19 = nI t
def bTk (w : Int32) (k : Nat) (q : Nat × (Nat → Int32)) : Nat × (Nat → Int32) := if byteAt w k = 0 then q else (q.1 + 1, upd q.2 q.1 (byteAt w k))
def cntW (w : Int32) (i : Nat) : Nat := lp (fun k a => if byteAt w k = 0 then a else a + 1) i 0
theorem bTk_cnt (w : Int32) (q : Nat × (Nat → Int32)) : ∀ i, (lp (bTk w) i q).1 = q.1 + cntW w i
  | 0 => rfl
  | i + 1 => by
    have ih := bTk_cnt w q i
    show (bTk w i (lp (bTk w) i q)).1 = q.1 + (if byteAt w i = 0 then cntW w i else cntW w i + 1)
    unfold bTk
    split
    · exact ih
    · show (lp (bTk w) i q).1 + 1 = _
      rw [ih]; omega
theorem cntW_mono (w : Int32) : ∀ i j, cntW w i ≤ cntW w (i + j)
  | i, 0 => Nat.le_refl _
  | i, j + 1 => by
    have ih := cntW_mono w i j
    show _ ≤ (if byteAt w (i + j) = 0 then cntW w (i + j) else cntW w (i + j) + 1)
    split <;> omega
theorem M_M_take_g {E : En} (hE : EOk E) (sg : Int32 → mm_Hp → mm_Hp) (hsg : ∀ w t hp q, t ≤ 40 → hp.1 25 19 = nI t → lp (bTk w) 4 (t, hp.1 40) = q → sg w hp = sR (sR hp 25 (upd (hp.1 25) 19 (nI q.1))) 40 q.2) : Mt E yM_take cM_take 3 none 1 (ct1 25 0 (fun w hp => ∃ t, t + cntW w 4 ≤ 40 ∧ hp.1 25 19 = nI t) (fun _ _ => 0) (fun _ _ => 0) sg) :=
  met (n := 60) (tab := tM_take) (cals := []) hE flM_ok pfM_ok csM_ok rfl (by decide) kM_take rfl cf_nil (rt_v rfl) ct1_c (Nat.le_of_ble_eq_true rfl) rfl
    (fun as hp pc => cond (Nat.beq pc 2) (some (fun L hp' => ∃ (w : Int32) (t i : Nat) (x : Int32) (q : Nat × (Nat → Int32)), as = [.ref 25, .int w] ∧ t + cntW w 4 ≤ 40 ∧ hp.1 25 19 = nI t ∧ lp (bTk w) i (t, hp.1 40) = q ∧ hp' = sR (sR hp 25 (upd (hp.1 25) 19 (nI q.1))) 40 q.2 ∧ L = [some (.ref 25), some (.int w), some (.int x)] ∧ x = nI i ∧ i ≤ 4)) none) (fun _ L _ => msk 100 2 L)
    (fun as hp hl h => by
      obtain ⟨w, rfl, t, ht, et⟩ := ct1_s h
      refine ⟨rfl, w, t, 0, _, (t, hp.1 40), rfl, ht, et, rfl, ?_, rfl, rfl, by omega⟩
      have h1 : upd (hp.1 25) 19 (nI t) = hp.1 25 := by
        funext k; unfold upd; split
        · rename_i q; rw [q, et]
        · rfl
      show hp = sR (sR hp 25 (upd (hp.1 25) 19 (nI t))) 40 (hp.1 40)
      rw [h1, sR_self, sR_self])
    (fun as hp hl h pc P hq L hp' hL _ => by
      obtain ⟨w, rfl, hP⟩ := ct1_s h
      obtain ⟨rfl, rfl⟩ := at1 hq
      obtain ⟨w', t, i, x, q, heq, ht, et, eq, ehp, rfl, ex, hi⟩ := hL
      cases heq
      have hq1 : q.1 = t + cntW w i := by rw [← eq]; exact bTk_cnt w (t, hp.1 40) i
      have hm := cntW_mono w i (4 - i)
      rw [show i + (4 - i) = 4 by omega] at hm
      refine ⟨fun c4 => ⟨rfl, rfl, ?_⟩, fun c4 => ?_⟩
      · have := cge ex (n := 4) rfl (by omega) (by omega) c4
        have hi2 : i = 4 := by omega
        subst hi2
        rw [ehp]
        exact (hsg w t hp q (by omega) et eq).symm
      · have hlt := clt ex (n := 4) rfl (by omega) (by omega) c4
        have hstep : lp (bTk w) (i + 1) (t, hp.1 40) = bTk w i q := by rw [← eq]; rfl
        have e19 : hp'.1 25 19 = nI q.1 := by rw [ehp, sR_ne (by omega), sR_at]; simp [upd]
        refine ⟨fun c17 => ?_, fun c17 => ⟨?_, ?_⟩⟩
        · have c17 : (w.toUInt32 >>> ((8 * x).toUInt32 &&& Int32.toUInt32 31)).toInt32 &&& 255 = 0 := c17
          rw [x8 ex] at c17
          have hb : bTk w i q = q := if_pos c17
          exact ⟨rfl, ⟨w, t, i + 1, _, q, rfl, ht, et, hstep.trans hb, ehp, rfl, inc1 ex, by omega⟩, dec1 ex (by omega) (by omega)⟩
        · have c17 : ¬ (w.toUInt32 >>> ((8 * x).toUInt32 &&& Int32.toUInt32 31)).toInt32 &&& 255 = 0 := c17
          rw [x8 ex] at c17
          have hc : cntW w (i + 1) = cntW w i + 1 := if_neg c17
          have hm2 := cntW_mono w (i + 1) (4 - (i + 1))
          rw [show (i + 1) + (4 - (i + 1)) = 4 by omega] at hm2
          show vp_in (hp'.1 25 19) 40
          rw [e19]; exact nIv (by omega) (by omega)
        · have c17 : ¬ (w.toUInt32 >>> ((8 * x).toUInt32 &&& Int32.toUInt32 31)).toInt32 &&& 255 = 0 := c17
          rw [x8 ex] at c17
          have hc : cntW w (i + 1) = cntW w i + 1 := if_neg c17
          have hm2 := cntW_mono w (i + 1) (4 - (i + 1))
          rw [show (i + 1) + (4 - (i + 1)) = 4 by omega] at hm2
          have hb : bTk w i q = (q.1 + 1, upd q.2 q.1 (byteAt w i)) := if_neg c17
          refine ⟨rfl, ⟨w, t, i + 1, _, _, rfl, ht, et, hstep.trans hb, ?_, rfl, inc1 ex, by omega⟩, dec1 ex (by omega) (by omega)⟩
          show (mm_up (mm_up hp'.1 40 (hp'.1 25 19).toNatClampNeg ((w.toUInt32 >>> ((8 * x).toUInt32 &&& Int32.toUInt32 31)).toInt32 &&& 255)) 25 19 (mm_up hp'.1 40 (hp'.1 25 19).toNatClampNeg ((w.toUInt32 >>> ((8 * x).toUInt32 &&& Int32.toUInt32 31)).toInt32 &&& 255) 25 19 + 1), hp'.2) = _
          rw [mm_up_n (a := 25) (by omega), e19, nIc (by omega), nI_1, x8 ex]
          refine hp_ext (fun k => ?_) (by rw [ehp]; rfl)
          by_cases k25 : k = 25
          · subst k25
            dsimp only
            rw [mm_up_s, mm_up_n (by omega), sR_ne (by omega), sR_at, ehp, sR_ne (by omega), sR_at, upd2]
          · by_cases k40 : k = 40
            · subst k40
              dsimp only
              rw [mm_up_n (by omega), mm_up_s, sR_at, ehp, sR_at]
              rfl
            · dsimp only
              rw [mm_up_n k25, mm_up_n k40, sR_ne k40, sR_ne k25, ehp, sR_ne k40, sR_ne k25])
def hTk (w : Int32) (hp : mm_Hp) : mm_Hp := sR (sR hp 25 (upd (hp.1 25) 19 (nI (lp (bTk w) 4 ((hp.1 25 19).toNatClampNeg, hp.1 40)).1))) 40 (lp (bTk w) 4 ((hp.1 25 19).toNatClampNeg, hp.1 40)).2
def sM_take : mm_Ct := ct1 25 0 (fun w hp => ∃ t, t + cntW w 4 ≤ 40 ∧ hp.1 25 19 = nI t) (fun _ _ => 0) (fun _ _ => 0) hTk
theorem M_M_take {E : En} (hE : EOk E) : Mt E yM_take cM_take 3 none 1 sM_take :=
  M_M_take_g hE hTk (fun w t hp q ht et h => by unfold hTk; rw [et, nIc (by omega), h])
def fMh (c k v : Int32) (hp : mm_Hp) : Int32 := if k.toInt = 60 then (if v ≤ hp.1 28 c.toNatClampNeg then 0 else 1) else if k.toInt = 62 then (if hp.1 28 c.toNatClampNeg ≤ v then 0 else 1) else if k.toInt = 111 then (if hp.1 26 c.toNatClampNeg = v then 1 else 0) else if k.toInt = 114 then (if hp.1 27 c.toNatClampNeg - 16 = v then 1 else 0) else hp.1 29 c.toNatClampNeg
theorem M_M_holds_g {E : En} (hE : EOk E) (rv : Int32 → Int32 → Int32 → mm_Hp → Int32) (hrv : ∀ c k v hp, (k.toInt = 60 → rv c k v hp = (if v ≤ hp.1 28 c.toNatClampNeg then 0 else 1)) ∧ (¬ k.toInt = 60 → k.toInt = 62 → rv c k v hp = (if hp.1 28 c.toNatClampNeg ≤ v then 0 else 1)) ∧ (¬ k.toInt = 60 → ¬ k.toInt = 62 → k.toInt = 111 → rv c k v hp = (if hp.1 26 c.toNatClampNeg = v then 1 else 0)) ∧ (¬ k.toInt = 60 → ¬ k.toInt = 62 → ¬ k.toInt = 111 → k.toInt = 114 → rv c k v hp = (if hp.1 27 c.toNatClampNeg - 16 = v then 1 else 0)) ∧ (¬ k.toInt = 60 → ¬ k.toInt = 62 → ¬ k.toInt = 111 → ¬ k.toInt = 114 → rv c k v hp = hp.1 29 c.toNatClampNeg))
    (hrB : ∀ c k v hp, isB (hp.1 29 c.toNatClampNeg) → isB (rv c k v hp)) : Mt E yM_holds cM_holds 4 (some .boolean) 1 (ct3 25 1 (fun c _ _ hp => vp_in c 80 ∧ isB (hp.1 29 c.toNatClampNeg)) (fun _ _ _ _ => 0) rv (fun _ _ _ hp => hp)) :=
  metS (n := 60) (tab := tM_holds) (cals := []) hE flM_ok pfM_ok csM_ok rfl (by decide) kM_holds rfl cf_nil (rt_z3 (fun c k v hp hP => hrB c k v hp hP.2)) ct3_c (Nat.le_of_ble_eq_true rfl) rfl (fun as hp hl h => by
    obtain ⟨c, k, v, rfl, hin, hB⟩ := ct3_s h
    obtain ⟨h1, h2, h3, h4, h5⟩ := hrv c k v hp
    refine ⟨fun a1 => ⟨hin, ⟨fun b => ⟨rfl, ?_, rfl⟩, fun b => ⟨rfl, ?_, rfl⟩⟩⟩, fun n1 => ⟨fun a2 => ⟨hin, ⟨fun b => ⟨rfl, ?_, rfl⟩, fun b => ⟨rfl, ?_, rfl⟩⟩⟩, fun n2 => ⟨fun a3 => ⟨hin, ⟨fun b => ⟨rfl, ?_, rfl⟩, fun b => ⟨rfl, ?_, rfl⟩⟩⟩, fun n3 => ⟨fun a4 => ⟨hin, ⟨fun b => ⟨rfl, ?_, rfl⟩, fun b => ⟨rfl, ?_, rfl⟩⟩⟩, fun n4 => ⟨hin, ⟨rfl, ?_, rfl⟩⟩⟩⟩⟩⟩
    · exact congrArg some ((h1 a1).trans (if_pos b)).symm
    · exact congrArg some ((h1 a1).trans (if_neg b)).symm
    · exact congrArg some ((h2 n1 a2).trans (if_pos b)).symm
    · exact congrArg some ((h2 n1 a2).trans (if_neg b)).symm
    · exact congrArg some ((h3 n1 n2 a3).trans (if_neg b)).symm
    · exact congrArg some ((h3 n1 n2 a3).trans (if_pos b)).symm
    · exact congrArg some ((h4 n1 n2 n3 a4).trans (if_neg b)).symm
    · exact congrArg some ((h4 n1 n2 n3 a4).trans (if_pos b)).symm
    · exact congrArg some (h5 n1 n2 n3 n4).symm)
theorem fMh_B {c k v : Int32} {hp : mm_Hp} (h : isB (hp.1 29 c.toNatClampNeg)) : isB (fMh c k v hp) := by
  unfold fMh
  split
  · exact isB_if
  · split
    · exact isB_if
    · split
      · exact isB_fi
      · split
        · exact isB_fi
        · exact h
def sM_holds : mm_Ct := ct3 25 1 (fun c _ _ hp => vp_in c 80 ∧ isB (hp.1 29 c.toNatClampNeg)) (fun _ _ _ _ => 0) fMh (fun _ _ _ hp => hp)
theorem M_M_holds {E : En} (hE : EOk E) : Mt E yM_holds cM_holds 4 (some .boolean) 1 sM_holds :=
  M_M_holds_g hE fMh (fun c k v hp => ⟨fun a => if_pos a, fun a b => (if_neg a).trans (if_pos b), fun a b d => (if_neg a).trans ((if_neg b).trans (if_pos d)), fun a b d e => (if_neg a).trans ((if_neg b).trans ((if_neg d).trans (if_pos e))), fun a b d e => (if_neg a).trans ((if_neg b).trans ((if_neg d).trans (if_neg e)))⟩) (fun c k v hp h => fMh_B h)
