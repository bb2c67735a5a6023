/-! ===== the reference: unit, linked ===== -/
theorem signs_cnt (w : Int32) : ∀ n, lp (bSigns w) n 0 = nI (cntW w n)
  | 0 => nI_0.symm
  | n + 1 => by
    show (if byteAt w n = 0 then lp (bSigns w) n 0 else lp (bSigns w) n 0 + 1) = nI (if byteAt w n = 0 then cntW w n else cntW w n + 1)
    rw [signs_cnt w n]
    split
    · rfl
    · rw [nI_1]
theorem cntW_le (w : Int32) : ∀ n, cntW w n ≤ n
  | 0 => Nat.le_refl _
  | n + 1 => by
    have := cntW_le w n
    show (if byteAt w n = 0 then cntW w n else cntW w n + 1) ≤ n + 1
    split <;> omega
theorem fSigns_n (w : Int32) : fSigns w = nI (cntW w 4) := signs_cnt w 4
theorem hTk_19 {w : Int32} {hp : mm_Hp} {t : Nat} (ht : t ≤ 40) (e : hp.1 25 19 = nI t) : (hTk w hp).1 25 19 = nI (t + cntW w 4) := by
  unfold hTk
  rw [sR_ne (by omega), sR_at, pk_us, bTk_cnt, e, nIc (by omega)]
def gUn (a b c d : Int32) (hp : mm_Hp) : Int32 := fGo (if 40 < hp.1 25 19 + fSigns a + fSigns b + fSigns c + fSigns d then 0 else 1) 1 1
def hTk4 (a b c d : Int32) (hp : mm_Hp) : mm_Hp := hTk d (hTk c (hTk b (hTk a hp)))
theorem un_sum {t : Nat} (ht : t ≤ 40) {x : Int32} (e : x = nI t) (a b c d : Int32) : x + fSigns a + fSigns b + fSigns c + fSigns d = nI (t + cntW a 4 + cntW b 4 + cntW c 4 + cntW d 4) := by
  rw [e, fSigns_n, fSigns_n, fSigns_n, fSigns_n, nI_add, nI_add, nI_add, nI_add]
theorem M_M_unit_g {E : En} (hE : EOk E) (tk : Int32 → mm_Hp → mm_Hp) (hMT : Mt E yM_take cM_take 3 none 1 (ct1 25 0 (fun w hp => ∃ t, t + cntW w 4 ≤ 40 ∧ hp.1 25 19 = nI t) (fun _ _ => 0) (fun _ _ => 0) tk)) (htk : ∀ w hp t, t ≤ 40 → hp.1 25 19 = nI t → (tk w hp).1 25 19 = nI (t + cntW w 4)) (rv : Int32 → Int32 → Int32 → Int32 → mm_Hp → Int32) (sg : Int32 → Int32 → Int32 → Int32 → mm_Hp → mm_Hp) (r1 : ∀ a b c d hp, gUn a b c d hp = 0 → rv a b c d hp = (tk d (tk c (tk b (tk a (setT 0 hp))))).1 25 19 ∧ sg a b c d hp = tk d (tk c (tk b (tk a (setT 0 hp))))) (r0 : ∀ a b c d hp, ¬ gUn a b c d hp = 0 → rv a b c d hp = 0 ∧ sg a b c d hp = setT (gUn a b c d hp) hp) :
    Mt E yM_unit cM_unit 5 (some .int) 6 (ct4 25 1 (fun _ _ _ _ hp => mtxOk hp) (fun _ _ _ _ _ => 0) rv sg) :=
  metS (n := 60) (tab := tM_unit) (cals := [(299, sR_signsIn), (206, sM_goes), (304, ct1 25 0 (fun w hp => ∃ t, t + cntW w 4 ≤ 40 ∧ hp.1 25 19 = nI t) (fun _ _ => 0) (fun _ _ => 0) tk)]) hE flM_ok pfM_ok csM_ok rfl (by decide) kM_unit rfl (cf_s 149 (lM_149 (M_M_signsOf hE) (by decide) rfl) (cf_v 103 (lM_103 (M_M_goes hE) (by decide) ct3_t rfl) (cf_v 152 (lM_152 hMT (by decide) ct1_t rfl) cf_nil))) (rt_i rfl) ct4_c (Nat.le_of_ble_eq_true rfl) rfl (fun as hp hl h => by
    obtain ⟨a, b, c, d, rfl, t, ht, et⟩ := ct4_s h
    have sm := un_sum ht et a b c d
    have la := cntW_le a 4
    have lb := cntW_le b 4
    have lc := cntW_le c 4
    have ld := cntW_le d 4
    refine ⟨trivial, fun r6 => ⟨trivial, fun r11 => ⟨trivial, fun r16 => ⟨trivial, fun r22 => ⟨fun c28 => ⟨⟨rfl, trivial⟩, fun r38 => ⟨fun c41 => absurd rfl (show ¬ (0 : Int32) = 0 from c41), fun c41 => ?_⟩, fun e38 x38 => no0 x38⟩, fun c28 => ⟨⟨rfl, trivial⟩, fun r38 => ⟨fun c41 => ?_, fun c41 => absurd (show (1 : Int32) = 0 from c41) (by decide)⟩, fun e38 x38 => no0 x38⟩⟩, fun e22 x22 => no0 x22⟩, fun e16 x16 => no0 x16⟩, fun e11 x11 => no0 x11⟩, fun e6 x6 => no0 x6⟩
    · have c28 : 40 < hp.1 25 19 + fSigns a + fSigns b + fSigns c + fSigns d := c28
      have g : gUn a b c d hp = 1 := by unfold gUn; rw [if_pos c28]; rfl
      obtain ⟨q1, q2⟩ := r0 a b c d hp (by rw [g]; decide)
      rw [g] at q2
      exact ⟨rfl, congrArg some q1.symm, q2.symm⟩
    · have c28 : ¬ 40 < hp.1 25 19 + fSigns a + fSigns b + fSigns c + fSigns d := c28
      have g : gUn a b c d hp = 0 := by unfold gUn; rw [if_neg c28]; rfl
      rw [sm] at c28
      have c28 : ¬ 40 < t + cntW a 4 + cntW b 4 + cntW c 4 + cntW d 4 := fun q => c28 ((nI_ltI (a := 40) (by omega) (by omega)).mpr q)
      obtain ⟨q1, q2⟩ := r1 a b c d hp g
      have e0 : (setT 0 hp).1 25 19 = nI t := by rw [setT_25 _ _ (by omega)]; exact et
      have e1 := htk a _ t ht e0
      have e2 := htk b _ _ (by omega) e1
      have e3 := htk c _ _ (by omega) e2
      exact ⟨⟨rfl, t, by omega, e0⟩, fun r48 => ⟨⟨rfl, _, by omega, e1⟩, fun r53 => ⟨⟨rfl, _, by omega, e2⟩, fun r58 => ⟨⟨rfl, _, by omega, e3⟩, fun r64 => ⟨rfl, congrArg some q1.symm, q2.symm⟩, fun e64 x64 => no0 x64⟩, fun e58 x58 => no0 x58⟩, fun e53 x53 => no0 x53⟩, fun e48 x48 => no0 x48⟩)
def rUnM (a b c d : Int32) (hp : mm_Hp) : Int32 := if gUn a b c d hp = 0 then (hTk4 a b c d (setT 0 hp)).1 25 19 else 0
def hUnM (a b c d : Int32) (hp : mm_Hp) : mm_Hp := if gUn a b c d hp = 0 then hTk4 a b c d (setT 0 hp) else setT (gUn a b c d hp) hp
def sM_unit : mm_Ct := ct4 25 1 (fun _ _ _ _ hp => mtxOk hp) (fun _ _ _ _ _ => 0) rUnM hUnM
theorem M_M_unit {E : En} (hE : EOk E) : Mt E yM_unit cM_unit 5 (some .int) 6 sM_unit :=
  M_M_unit_g hE hTk (M_M_take hE) (fun w hp t ht e => hTk_19 ht e) rUnM hUnM (fun a b c d hp h => by unfold rUnM hUnM; rw [if_pos h, if_pos h]; exact ⟨rfl, rfl⟩) (fun a b c d hp h => by unfold rUnM hUnM; rw [if_neg h, if_neg h]; exact ⟨rfl, rfl⟩)
/-! linked -/
def lkM (hp : mm_Hp) (c : Int32) (o : Nat) : Int32 := if nI o = c then 0 else if hp.1 29 o = 0 then (if hp.1 29 (cN c) = 0 then (if hp.1 26 o = hp.1 26 (cN c) then 1 else if hp.1 27 o = hp.1 27 (cN c) then 1 else 0) else 0) else 0
def gLk (c k : Int32) (hp : mm_Hp) : Int32 := fGo (if fIc c hp = 0 then 0 else if k < 0 then 0 else 1) 1 1
def iLk (hp : mm_Hp) (c k : Int32) (pc : Nat) : Option (mm_Loc → mm_Hp → Prop) := cond (Nat.beq pc 33) (some (fun L hp' => ∃ (i : Nat) (a y : Int32) (o5 : Option Value), L = [some (.ref 25), some (.int c), some (.int k), some (.int a), some (.int y), o5] ∧ y = nI i ∧ i ≤ mszN hp ∧ fLkF (lkM hp c) k (mszN hp) 0 0 = fLkF (lkM hp c) k (mszN hp - i) i a ∧ hp' = setT 0 hp ∧ gLk c k hp = 0)) none
theorem fLkF_s (f : Nat → Int32) (k : Int32) {n i : Nat} (hi : i < n) (a : Int32) : fLkF f k (n - i) i a = if f i = 0 then fLkF f k (n - (i + 1)) (i + 1) a else if a = k then nI i else fLkF f k (n - (i + 1)) (i + 1) (a + 1) := by
  rw [show n - i = (n - (i + 1)) + 1 by omega]
  rfl
theorem M_M_linked_g {E : En} (hE : EOk E) (rv : Int32 → Int32 → mm_Hp → Int32) (sg : Int32 → Int32 → mm_Hp → mm_Hp) (r1 : ∀ c k hp, gLk c k hp = 0 → rv c k hp = fLkF (lkM hp c) k (mszN hp) 0 0) (r0 : ∀ c k hp, ¬ gLk c k hp = 0 → rv c k hp = 0) (s1 : ∀ c k hp, sg c k hp = setT (gLk c k hp) hp) :
    Mt E yM_linked cM_linked 6 (some .int) 6 (ct2 25 1 (fun _ _ hp => mdOk hp) (fun _ _ _ => 0) rv sg) :=
  met (n := 60) (tab := tM_linked) (cals := [(214, sM_isCoin), (206, sM_goes)]) hE flM_ok pfM_ok csM_ok rfl (by decide) kM_linked rfl (cf_v 107 (lM_107 (M_M_isCoin hE) (by decide) ct1_t rfl) (cf_v 103 (lM_103 (M_M_goes hE) (by decide) ct3_t rfl) cf_nil)) (rt_i rfl) ct2_c (Nat.le_of_ble_eq_true rfl) rfl
    (fun as hp pc => iLk hp (as2 as).1 (as2 as).2 pc) (fun pc L _ => 100 - msv 4 L)
    (fun as hp hl h => by
      obtain ⟨c, k, rfl, hP⟩ := ct2_s h
      have fin : ∀ X Y Z : Int32, gLk c k hp = fGo X Y Z → (¬ (if fGo X Y Z = 0 then (1 : Int32) else 0) = 0 → setT (fGo X Y Z) hp = setT 0 hp ∧ gLk c k hp = 0) ∧ ((if fGo X Y Z = 0 then (1 : Int32) else 0) = 0 → some (0 : Int32) = some (rv c k hp) ∧ setT (fGo X Y Z) hp = sg c k hp) := fun X Y Z hg => by
        obtain ⟨a1, a2⟩ := go2 hg hp
        refine ⟨fun q => ⟨(a1 q).2, (a1 q).1⟩, fun q => ⟨by rw [r0 c k hp (a2 q).1], ?_⟩⟩
        rw [s1]
        exact (a2 q).2
      refine ⟨⟨rfl, trivial⟩, fun r3 => ⟨fun c6 => ⟨⟨rfl, trivial⟩, fun r20 => ⟨fun c23 => ?_, fun c23 => ?_⟩, fun e20 x20 => no0 x20⟩, fun c6 => ⟨fun c10 => ⟨⟨rfl, trivial⟩, fun r20 => ⟨fun c23 => ?_, fun c23 => ?_⟩, fun e20 x20 => no0 x20⟩, fun c10 => ⟨⟨rfl, trivial⟩, fun r20 => ⟨fun c23 => ?_, fun c23 => ?_⟩, fun e20 x20 => no0 x20⟩⟩⟩, fun e3 x3 => no0 x3⟩
      all_goals try (have c6 : fIc c hp = 0 := c6)
      all_goals try (have c6 : ¬ fIc c hp = 0 := c6)
      all_goals try (have c10 : k < 0 := c10)
      all_goals try (have c10 : ¬ k < 0 := c10)
      · obtain ⟨q1, q2⟩ := (fin 0 1 1 (by unfold gLk; rw [if_pos c6])).1 c23
        exact ⟨rfl, 0, _, _, _, rfl, rfl, by omega, rfl, q1, q2⟩
      · obtain ⟨q1, q2⟩ := (fin 0 1 1 (by unfold gLk; rw [if_pos c6])).2 c23
        exact ⟨rfl, q1, q2⟩
      · obtain ⟨q1, q2⟩ := (fin 0 1 1 (by unfold gLk; rw [if_neg c6, if_pos c10])).1 c23
        exact ⟨rfl, 0, _, _, _, rfl, rfl, by omega, rfl, q1, q2⟩
      · obtain ⟨q1, q2⟩ := (fin 0 1 1 (by unfold gLk; rw [if_neg c6, if_pos c10])).2 c23
        exact ⟨rfl, q1, q2⟩
      · obtain ⟨q1, q2⟩ := (fin 1 1 1 (by unfold gLk; rw [if_neg c6, if_neg c10])).1 c23
        exact ⟨rfl, 0, _, _, _, rfl, rfl, by omega, rfl, q1, q2⟩
      · obtain ⟨q1, q2⟩ := (fin 1 1 1 (by unfold gLk; rw [if_neg c6, if_neg c10])).2 c23
        exact ⟨rfl, q1, q2⟩)
    (fun as hp hl h pc P hq L hp' hL _ => by
      obtain ⟨c, k, rfl, hP⟩ := ct2_s h
      obtain ⟨rfl, rfl⟩ := at1 hq
      obtain ⟨i, a, y, o5, rfl, ey, hi, hf, ehp, hg⟩ := hL
      have hg : gLk c k hp = 0 := hg
      have hf : fLkF (lkM hp c) k (mszN hp) 0 0 = fLkF (lkM hp c) k (mszN hp - i) i a := hf
      have h80 := mszN_80 hP
      obtain ⟨m, hm, em⟩ := hP.1
      obtain ⟨kc, hkc, ekc⟩ := ic_in (by omega) em (and_n0' (fGo_0.mp hg).1)
      have esz : hp.1 25 1 = nI (mszN hp) := by obtain ⟨n, _, e, e2⟩ := mszE hP.1; rw [e2]; exact e
      have v25 : hp'.1 25 1 = nI (mszN hp) := by rw [ehp, setT_25 _ _ (by omega)]; exact esz
      have hy := nx ey (by omega)
      have sok : hp' = sg c k hp := by rw [s1, hg]; exact ehp
      have er := r1 c k hp hg
      have ck : cN c = kc := by rw [ekc, cN_nI (by omega)]
      have hc : c.toNatClampNeg = cN c := rfl
      have ic : vp_in c 80 := inx ekc (by omega) (by omega)
      refine ⟨fun c39 => ⟨rfl, ?_, sok⟩, fun c39 => ?_⟩
      · have c39 : hp'.1 25 1 ≤ y := c39
        rw [v25] at c39
        have := cge ey (n := mszN hp) rfl (by omega) (by omega) c39
        have hi2 : i = mszN hp := by omega
        show some (-1 : Int32) = some (rv c k hp)
        rw [er, hf, hi2, Nat.sub_self]
        rfl
      · have c39 : ¬ hp'.1 25 1 ≤ y := c39
        rw [v25] at c39
        have hlt := clt ey (n := mszN hp) rfl (by omega) (by omega) c39
        have iy : vp_in y 80 := inx ey (by omega) (by omega)
        have hms : 100 - (y + 1).toNatClampNeg < 100 - y.toNatClampNeg := by rw [inc1 ey, hy, nIc (by omega)]; omega
        have hst := fLkF_s (lkM hp c) k hlt a
        have w26 : hp'.1 26 = hp.1 26 := by rw [ehp, setT_ne _ _ (by omega)]
        have w27 : hp'.1 27 = hp.1 27 := by rw [ehp, setT_ne _ _ (by omega)]
        have w29 : hp'.1 29 = hp.1 29 := by rw [ehp, setT_ne _ _ (by omega)]
        have zero : ∀ (o5 : Option Value), lkM hp c i = 0 → ∃ (i' : Nat) (a' y' : Int32) (o5' : Option Value), [some (Value.ref 25), some (.int c), some (.int k), some (.int a), some (.int (y + 1)), o5] = [some (Value.ref 25), some (.int c), some (.int k), some (.int a'), some (.int y'), o5'] ∧ y' = nI i' ∧ i' ≤ mszN hp ∧ fLkF (lkM hp c) k (mszN hp) 0 0 = fLkF (lkM hp c) k (mszN hp - i') i' a' ∧ hp' = setT 0 hp ∧ gLk c k hp = 0 := fun o5 hz => ⟨i + 1, a, _, _, rfl, inc1 ey, by omega, by rw [hf, hst, if_pos hz], ehp, hg⟩
        have one : ∀ (o5 : Option Value), lkM hp c i = 1 → ¬ a = k → ∃ (i' : Nat) (a' y' : Int32) (o5' : Option Value), [some (Value.ref 25), some (.int c), some (.int k), some (.int (a + 1)), some (.int (y + 1)), o5] = [some (Value.ref 25), some (.int c), some (.int k), some (.int a'), some (.int y'), o5'] ∧ y' = nI i' ∧ i' ≤ mszN hp ∧ fLkF (lkM hp c) k (mszN hp) 0 0 = fLkF (lkM hp c) k (mszN hp - i') i' a' ∧ hp' = setT 0 hp ∧ gLk c k hp = 0 := fun o5 hz hk => ⟨i + 1, _, _, _, rfl, inc1 ey, by omega, by rw [hf, hst, if_neg (by rw [hz]; decide), if_neg hk], ehp, hg⟩
        have ret : lkM hp c i = 1 → a = k → some y = some (rv c k hp) := fun hz hk => by
          rw [er, hf, hst, if_neg (by rw [hz]; decide), if_pos hk, ey]
        refine ⟨fun c45 => ⟨fun c108 => ⟨fun c121 => ⟨rfl, zero _ ?_, hms⟩, fun c121 => absurd rfl c121⟩, fun c108 => absurd rfl c108⟩, fun c45 => ⟨iy, ⟨fun c55 => ⟨fun c108 => ⟨fun c121 => ⟨rfl, zero _ ?_, hms⟩, fun c121 => absurd rfl c121⟩, fun c108 => absurd rfl c108⟩, fun c55 => ⟨ic, ⟨fun c64 => ⟨fun c108 => ⟨fun c121 => ⟨rfl, zero _ ?_, hms⟩, fun c121 => absurd rfl c121⟩, fun c108 => absurd rfl c108⟩, fun c64 => ⟨iy, ⟨ic, ⟨fun c80 => ⟨fun c108 => absurd (show (1 : Int32) = 0 from c108) (by decide), fun c108 => ⟨fun c113 => ⟨fun c121 => absurd (show (1 : Int32) = 0 from c121) (by decide), fun c121 => ⟨rfl, one _ ?_ c113, hms⟩⟩, fun c113 => ⟨rfl, ret ?_ c113, sok⟩⟩⟩, fun c80 => ⟨iy, ⟨ic, ⟨fun c96 => ⟨fun c108 => ⟨fun c121 => ⟨rfl, zero _ ?_, hms⟩, fun c121 => absurd rfl c121⟩, fun c108 => absurd rfl c108⟩, fun c96 => ⟨fun c108 => absurd (show (1 : Int32) = 0 from c108) (by decide), fun c108 => ⟨fun c113 => ⟨fun c121 => absurd (show (1 : Int32) = 0 from c121) (by decide), fun c121 => ⟨rfl, one _ ?_ c113, hms⟩⟩, fun c113 => ⟨rfl, ret ?_ c113, sok⟩⟩⟩⟩⟩⟩⟩⟩⟩⟩⟩⟩⟩⟩
        all_goals try (have c45 : y = c := c45)
        all_goals try (have c45 : ¬ y = c := c45)
        all_goals rw [ey] at c45
        all_goals try (have c55 : hp'.1 29 y.toNatClampNeg = 0 := c55)
        all_goals try (have c55 : ¬ hp'.1 29 y.toNatClampNeg = 0 := c55)
        all_goals try rw [w29, hy] at c55
        all_goals try (have c64 : hp'.1 29 c.toNatClampNeg = 0 := c64)
        all_goals try (have c64 : ¬ hp'.1 29 c.toNatClampNeg = 0 := c64)
        all_goals try rw [w29, hc] at c64
        all_goals try (have c80 : hp'.1 26 y.toNatClampNeg = hp'.1 26 c.toNatClampNeg := c80)
        all_goals try (have c80 : ¬ hp'.1 26 y.toNatClampNeg = hp'.1 26 c.toNatClampNeg := c80)
        all_goals try rw [w26, hy, hc] at c80
        all_goals try (have c96 : hp'.1 27 y.toNatClampNeg = hp'.1 27 c.toNatClampNeg := c96)
        all_goals try (have c96 : ¬ hp'.1 27 y.toNatClampNeg = hp'.1 27 c.toNatClampNeg := c96)
        all_goals try rw [w27, hy, hc] at c96
        all_goals unfold lkM
        · rw [if_pos c45]
        · rw [if_neg c45, if_neg c55]
        · rw [if_neg c45, if_pos c55, if_neg c64]
        · rw [if_neg c45, if_pos c55, if_pos c64, if_pos c80]
        · rw [if_neg c45, if_pos c55, if_pos c64, if_pos c80]
        · rw [if_neg c45, if_pos c55, if_pos c64, if_neg c80, if_neg c96]
        · rw [if_neg c45, if_pos c55, if_pos c64, if_neg c80, if_pos c96]
        · rw [if_neg c45, if_pos c55, if_pos c64, if_neg c80, if_pos c96])
where and_n0' {x : Int32} {k : Int32} (h : ¬ (if x = 0 then (0 : Int32) else if k < 0 then 0 else 1) = 0) : ¬ x = 0 := fun q => h (if_pos q)
def rLkM (c k : Int32) (hp : mm_Hp) : Int32 := if gLk c k hp = 0 then fLkF (lkM hp c) k (mszN hp) 0 0 else 0
def hLkM (c k : Int32) (hp : mm_Hp) : mm_Hp := setT (gLk c k hp) hp
def sM_linked : mm_Ct := ct2 25 1 (fun _ _ hp => mdOk hp) (fun _ _ _ => 0) rLkM hLkM
theorem M_M_linked {E : En} (hE : EOk E) : Mt E yM_linked cM_linked 6 (some .int) 6 sM_linked :=
  M_M_linked_g hE rLkM hLkM (fun c k hp h => by unfold rLkM; rw [if_pos h]) (fun c k hp h => by unfold rLkM; rw [if_neg h]) (fun c k hp => rfl)
