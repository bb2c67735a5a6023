/-! ===== DieGraphs$Coins ===== -/
def sC_size : mm_Ct := ct0 1 1 (fun _ => True) (fun _ => 0) (fun hp => hp.1 1 7) (fun hp => hp)
theorem M_C_size {E : En} (hE : EOk E) : Mt E yC_size cC_size 1 (some .int) 1 sC_size :=
  metS (n := 10) (tab := tC_size) (cals := []) hE flC_ok pfC_ok csC_ok rfl (by decide) kC_size rfl cf_nil (rt_i rfl) ct0_c (by decide) rfl (fun as hp hl h => by
    obtain ⟨rfl, hP⟩ := ct0_s h
    exact ⟨rfl, rfl, rfl⟩)
def sC_dieOf : mm_Ct := ct2 1 1 (fun c _ _ => vp_in c 80) (fun _ _ _ => 0) (fun c s hp => if s = 0 then hp.1 5 c.toNatClampNeg else hp.1 6 c.toNatClampNeg) (fun _ _ hp => hp)
theorem M_C_dieOf {E : En} (hE : EOk E) : Mt E yC_dieOf cC_dieOf 3 (some .int) 1 sC_dieOf :=
  metS (n := 20) (tab := tC_dieOf) (cals := []) hE flC_ok pfC_ok csC_ok rfl (by decide) kC_dieOf rfl cf_nil (rt_i rfl) ct2_c (by decide) rfl (fun as hp hl h => by
    obtain ⟨c, s, rfl, hP⟩ := ct2_s h
    refine ⟨fun hs => ⟨hP, rfl, ?_, rfl⟩, fun hs => ⟨hP, rfl, ?_, rfl⟩⟩
    · exact congrArg some (if_neg hs).symm
    · exact congrArg some (if_pos hs).symm)
def sC_milligramsOf : mm_Ct := ct1 1 1 (fun c _ => vp_in c 80) (fun _ _ => 0) (fun c hp => hp.1 7 c.toNatClampNeg) (fun _ hp => hp)
theorem M_C_milligramsOf {E : En} (hE : EOk E) : Mt E yC_milligramsOf cC_milligramsOf 2 (some .int) 1 sC_milligramsOf :=
  metS (n := 20) (tab := tC_milligramsOf) (cals := []) hE flC_ok pfC_ok csC_ok rfl (by decide) kC_milligramsOf rfl cf_nil (rt_i rfl) ct1_c (by decide) rfl (fun as hp hl h => by
    obtain ⟨c, rfl, hP⟩ := ct1_s h
    exact ⟨hP, rfl, rfl, rfl⟩)
def sC_stageOf : mm_Ct := ct2 1 1 (fun c _ _ => vp_in c 80) (fun _ _ _ => 0) (fun c s hp => if s = 0 then hp.1 8 c.toNatClampNeg else hp.1 9 c.toNatClampNeg) (fun _ _ hp => hp)
theorem M_C_stageOf {E : En} (hE : EOk E) : Mt E yC_stageOf cC_stageOf 3 (some .int) 1 sC_stageOf :=
  metS (n := 20) (tab := tC_stageOf) (cals := []) hE flC_ok pfC_ok csC_ok rfl (by decide) kC_stageOf rfl cf_nil (rt_i rfl) ct2_c (by decide) rfl (fun as hp hl h => by
    obtain ⟨c, s, rfl, hP⟩ := ct2_s h
    refine ⟨fun hs => ⟨hP, rfl, ?_, rfl⟩, fun hs => ⟨hP, rfl, ?_, rfl⟩⟩
    · exact congrArg some (if_neg hs).symm
    · exact congrArg some (if_pos hs).symm)
def sC_setStage : mm_Ct := ct3 1 0 (fun c _ _ _ => vp_in c 80) (fun _ _ _ _ => 0) (fun _ _ _ _ => 0) (fun c s x hp => if s = 0 then (mm_up hp.1 8 c.toNatClampNeg x, hp.2) else (mm_up hp.1 9 c.toNatClampNeg x, hp.2))
theorem M_C_setStage {E : En} (hE : EOk E) : Mt E yC_setStage cC_setStage 4 none 1 sC_setStage :=
  metS (n := 20) (tab := tC_setStage) (cals := []) hE flC_ok pfC_ok csC_ok rfl (by decide) kC_setStage rfl cf_nil (rt_v rfl) ct3_c (by decide) rfl (fun as hp hl h => by
    obtain ⟨c, s, x, rfl, hP⟩ := ct3_s h
    refine ⟨fun hs => ⟨hP, rfl, rfl, ?_⟩, fun hs => ⟨hP, rfl, rfl, ?_⟩⟩
    · exact (if_neg hs).symm
    · exact (if_pos hs).symm)
def sC_isDoubted : mm_Ct := ct1 1 1 (fun c hp => vp_in c 80 ∧ isB (hp.1 11 c.toNatClampNeg)) (fun _ _ => 0) (fun c hp => hp.1 11 c.toNatClampNeg) (fun _ hp => hp)
theorem M_C_isDoubted {E : En} (hE : EOk E) : Mt E yC_isDoubted cC_isDoubted 2 (some .boolean) 1 sC_isDoubted :=
  metS (n := 20) (tab := tC_isDoubted) (cals := []) hE flC_ok pfC_ok csC_ok rfl (by decide) kC_isDoubted rfl cf_nil (rt_z rfl (fun as hp h => by obtain ⟨c, rfl, hP⟩ := ct1_s h; exact hP.2)) ct1_c (by decide) rfl (fun as hp hl h => by
    obtain ⟨c, rfl, hP⟩ := ct1_s h
    exact ⟨hP.1, rfl, rfl, rfl⟩)
theorem isB_v {x : Int32} (h : isB x) : vp_nar .boolean x = x := by
  rcases h with rfl | rfl <;> decide +kernel
def sC_setDoubt : mm_Ct := ct2 1 0 (fun c b _ => vp_in c 80 ∧ isB b) (fun _ _ _ => 0) (fun _ _ _ => 0) (fun c b hp => (mm_up hp.1 11 c.toNatClampNeg b, hp.2))
theorem M_C_setDoubt {E : En} (hE : EOk E) : Mt E yC_setDoubt cC_setDoubt 3 none 1 sC_setDoubt :=
  metS (n := 20) (tab := tC_setDoubt) (cals := []) hE flC_ok pfC_ok csC_ok rfl (by decide) kC_setDoubt rfl cf_nil (rt_v rfl) ct2_c (by decide) rfl (fun as hp hl h => by
    obtain ⟨c, b, rfl, hP⟩ := ct2_s h
    refine ⟨hP.1, rfl, rfl, ?_⟩
    show (mm_up hp.1 11 c.toNatClampNeg (vp_nar .boolean b), hp.2) = (mm_up hp.1 11 c.toNatClampNeg b, hp.2)
    rw [isB_v hP.2])
def fC_add (f b m : Int32) (hp : mm_Hp) : mm_Hp := (mm_up (mm_up (mm_up (mm_up (mm_up (mm_up hp.1 5 (szN hp) f) 6 (szN hp) b) 7 (szN hp) m) 8 (szN hp) (-1)) 9 (szN hp) (-1)) 1 7 (hp.1 1 7 + 1), hp.2)
def sC_add : mm_Ct := ct3 1 1 (fun _ _ _ hp => vp_in (hp.1 1 7) 80) (fun _ _ _ _ => 0) (fun _ _ _ hp => hp.1 1 7) fC_add
theorem M_C_add {E : En} (hE : EOk E) : Mt E yC_add cC_add 5 (some .int) 1 sC_add :=
  metS (n := 60) (tab := tC_add) (cals := []) hE flC_ok pfC_ok csC_ok rfl (by decide) kC_add rfl cf_nil (rt_i rfl) ct3_c (by decide) rfl (fun as hp hl h => by
    obtain ⟨f, b, m, rfl, hP⟩ := ct3_s h
    exact ⟨hP, hP, hP, hP, hP, rfl, rfl, rfl⟩)
/-- how many of the first n are not 0 -/
def cnt1 (f : Nat → Int32) (n : Nat) : Int32 := lp (fun k a => if f k = 0 then a else a + 1) n 0
def sC_doubted : mm_Ct := ct0 1 1 szOk (fun _ => 0) (fun hp => cnt1 (hp.1 11) (szN hp)) (fun hp => hp)
theorem M_C_doubted {E : En} (hE : EOk E) : Mt E yC_doubted cC_doubted 3 (some .int) 1 sC_doubted :=
  met (n := 40) (tab := tC_doubted) (cals := []) hE flC_ok pfC_ok csC_ok rfl (by decide) kC_doubted rfl cf_nil (rt_i rfl) ct0_c (by decide) rfl
    (fun _ hp pc => cond (Nat.beq pc 4) (some (fun L hp' => hp' = hp ∧ ∃ i : Nat, i ≤ szN hp ∧ L = [some (.ref 1), some (.int (cnt1 (hp.1 11) i)), some (.int (nI i))])) none) (fun _ L _ => msk 100 2 L)
    (fun as hp hl h => by
      obtain ⟨rfl, hP⟩ := ct0_s h
      exact ⟨rfl, rfl, 0, Nat.zero_le _, rfl⟩)
    (fun as hp hl h pc P hq L hp' hL _ => by
      obtain ⟨rfl, hP⟩ := ct0_s h
      obtain ⟨hs, hsz⟩ := szOk.eq hP
      obtain ⟨rfl, rfl⟩ := at1 hq
      obtain ⟨rfl, i, hi, rfl⟩ := hL
      have hms : msk 100 2 [some (Value.ref 1), some (.int (cnt1 (hp'.1 11) i)), some (.int (nI i))] = 100 - i := by
        show 100 - (nI i).toNatClampNeg = 100 - i
        rw [nIc (by omega)]
      rw [hms]
      refine ⟨fun hge => ⟨rfl, ?_, rfl⟩, fun hlt => ⟨?_, fun h0 => ?_, fun h0 => ?_⟩⟩
      · rw [hs] at hge
        have := (nI_leI (by omega) (by omega)).mp hge
        have hi2 : i = szN hp' := by omega
        subst hi2
        rfl
      · rw [hs] at hlt
        have := mt (nI_leI (a := szN hp') (b := i) (by omega) (by omega)).mpr hlt
        exact nIv (by omega) (by omega)
      · rw [hs] at hlt
        have := mt (nI_leI (a := szN hp') (b := i) (by omega) (by omega)).mpr hlt
        have h0 : hp'.1 11 (nI i).toNatClampNeg = 0 := h0
        rw [nIc (by omega)] at h0
        refine ⟨rfl, ⟨rfl, i + 1, by omega, ?_⟩, ?_⟩
        · show [some (Value.ref 1), some (.int (cnt1 (hp'.1 11) i)), some (.int (nI i + 1))] = _
          rw [nI_1]
          show _ = [some (Value.ref 1), some (.int (if hp'.1 11 i = 0 then cnt1 (hp'.1 11) i else cnt1 (hp'.1 11) i + 1)), some (.int (nI (i + 1)))]
          rw [if_pos h0]
        · show 100 - (nI i + 1).toNatClampNeg < 100 - i
          rw [nI_1, nIc (by omega)]
          omega
      · rw [hs] at hlt
        have := mt (nI_leI (a := szN hp') (b := i) (by omega) (by omega)).mpr hlt
        have h0 : ¬ hp'.1 11 (nI i).toNatClampNeg = 0 := h0
        rw [nIc (by omega)] at h0
        refine ⟨rfl, ⟨rfl, i + 1, by omega, ?_⟩, ?_⟩
        · show [some (Value.ref 1), some (.int (cnt1 (hp'.1 11) i + 1)), some (.int (nI i + 1))] = _
          rw [nI_1]
          show _ = [some (Value.ref 1), some (.int (if hp'.1 11 i = 0 then cnt1 (hp'.1 11) i else cnt1 (hp'.1 11) i + 1)), some (.int (nI (i + 1)))]
          rw [if_neg h0]
        · show 100 - (nI i + 1).toNatClampNeg < 100 - i
          rw [nI_1, nIc (by omega)]
          omega)
/-- bit h of x, as 0 or 1 -/
def bitAt (x h : Int32) : Int32 := (x.toUInt32 >>> (h.toUInt32 &&& Int32.toUInt32 31)).toInt32 &&& 1
def bit1 (h : Int32) : Int32 := 1 <<< (h &&& 31)
def sC_isInHoard : mm_Ct := ct2 1 1 (fun c _ _ => vp_in c 80) (fun _ _ _ => 0) (fun c h hp => if bitAt (hp.1 10 c.toNatClampNeg) h = 0 then 0 else 1) (fun _ _ hp => hp)
theorem M_C_isInHoard {E : En} (hE : EOk E) : Mt E yC_isInHoard cC_isInHoard 3 (some .boolean) 1 sC_isInHoard :=
  metS (n := 20) (tab := tC_isInHoard) (cals := []) hE flC_ok pfC_ok csC_ok rfl (by decide) kC_isInHoard rfl cf_nil (rt_z rfl (fun as hp h => by
      obtain ⟨c, b, rfl, hP⟩ := ct2_s h
      show isB (if bitAt (hp.1 10 c.toNatClampNeg) b = 0 then 0 else 1)
      split
      · exact Or.inl rfl
      · exact Or.inr rfl)) ct2_c (by decide) rfl (fun as hp hl h => by
    obtain ⟨c, b, rfl, hP⟩ := ct2_s h
    refine ⟨hP, ⟨fun c10 => ⟨rfl, ?_, rfl⟩, fun c10 => ⟨rfl, ?_, rfl⟩⟩⟩
    · exact congrArg some (if_pos c10).symm
    · exact congrArg some (if_neg c10).symm)
def sC_putIntoHoard : mm_Ct := ct2 1 0 (fun c _ _ => vp_in c 80) (fun _ _ _ => 0) (fun _ _ _ => 0) (fun c h hp => (mm_up hp.1 10 c.toNatClampNeg (hp.1 10 c.toNatClampNeg ||| bit1 h), hp.2))
theorem M_C_putIntoHoard {E : En} (hE : EOk E) : Mt E yC_putIntoHoard cC_putIntoHoard 3 none 1 sC_putIntoHoard :=
  metS (n := 20) (tab := tC_putIntoHoard) (cals := []) hE flC_ok pfC_ok csC_ok rfl (by decide) kC_putIntoHoard rfl cf_nil (rt_v rfl) ct2_c (by decide) rfl (fun as hp hl h => by
    obtain ⟨c, b, rfl, hP⟩ := ct2_s h
    exact ⟨hP, hP, rfl, rfl, rfl⟩)
def fC_areLinked (c o : Int32) (hp : mm_Hp) : Int32 := if c = o ∨ ¬ hp.1 11 c.toNatClampNeg = 0 ∨ ¬ hp.1 11 o.toNatClampNeg = 0 ∨ (¬ hp.1 5 c.toNatClampNeg = hp.1 5 o.toNatClampNeg ∧ ¬ hp.1 6 c.toNatClampNeg = hp.1 6 o.toNatClampNeg) then 0 else 1
theorem isB_if {c : Prop} [Decidable c] : isB (if c then 0 else 1) := by
  split
  · exact Or.inl rfl
  · exact Or.inr rfl
theorem isB_fi {c : Prop} [Decidable c] : isB (if c then 1 else 0) := by
  split
  · exact Or.inr rfl
  · exact Or.inl rfl
def sC_areLinked : mm_Ct := ct2 1 1 (fun c o _ => vp_in c 80 ∧ vp_in o 80) (fun _ _ _ => 0) fC_areLinked (fun _ _ hp => hp)
theorem M_C_areLinked {E : En} (hE : EOk E) : Mt E yC_areLinked cC_areLinked 3 (some .boolean) 1 sC_areLinked :=
  metS (n := 60) (tab := tC_areLinked) (cals := []) hE flC_ok pfC_ok csC_ok rfl (by decide) kC_areLinked rfl cf_nil (rt_z rfl (fun as hp h => by
      obtain ⟨c, o, rfl, hP⟩ := ct2_s h
      exact isB_if)) ct2_c (by decide) rfl (fun as hp hl h => by
    obtain ⟨c, o, rfl, hP⟩ := ct2_s h
    refine ⟨fun c2 => ⟨rfl, ?_, rfl⟩, fun c2 => ⟨hP.1, ⟨fun c11 => ⟨rfl, ?_, rfl⟩, fun c11 => ⟨hP.2, ⟨fun c20 => ⟨rfl, ?_, rfl⟩, fun c20 => ⟨hP.1, ⟨hP.2, ⟨fun c35 => ⟨rfl, ?_, rfl⟩, fun c35 => ⟨hP.1, ⟨hP.2, ⟨fun c50 => ⟨rfl, ?_, rfl⟩, fun c50 => ⟨rfl, ?_, rfl⟩⟩⟩⟩⟩⟩⟩⟩⟩⟩⟩⟩
    · exact congrArg some (if_pos (Or.inl c2)).symm
    · exact congrArg some (if_pos (Or.inr (Or.inl c11))).symm
    · exact congrArg some (if_pos (Or.inr (Or.inr (Or.inl c20)))).symm
    · refine congrArg some (if_neg (fun q => ?_)).symm
      rcases q with q | q | q | q
      · exact c2 q
      · exact q c11
      · exact q c20
      · exact q.1 c35
    · exact congrArg some (if_pos (Or.inr (Or.inr (Or.inr ⟨c35, c50⟩)))).symm
    · refine congrArg some (if_neg (fun q => ?_)).symm
      rcases q with q | q | q | q
      · exact c2 q
      · exact q c11
      · exact q c20
      · exact q.2 c50)
def bC_dies (hp : mm_Hp) (h : Int32) (k : Nat) (a : Int32) : Int32 := if hp.1 11 k = 0 then (if bitAt (hp.1 10 k) h = 0 then a else a ||| (bit1 (hp.1 5 k) ||| bit1 (hp.1 6 k))) else a
def sC_sureDiesOfHoard : mm_Ct := ct1 1 1 (fun _ hp => szOk hp) (fun _ _ => 0) (fun h hp => lp (bC_dies hp h) (szN hp) 0) (fun _ hp => hp)
theorem M_C_sureDiesOfHoard {E : En} (hE : EOk E) : Mt E yC_sureDiesOfHoard cC_sureDiesOfHoard 4 (some .int) 2 sC_sureDiesOfHoard :=
  met (n := 60) (tab := tC_sureDiesOfHoard) (cals := [(76, sC_isInHoard)]) hE flC_ok pfC_ok csC_ok rfl (by decide) kC_sureDiesOfHoard rfl
    (cf_v 38 (lC_38 (M_C_isInHoard hE) (by decide) ct2_t rfl) cf_nil) (rt_i rfl) ct1_c (by decide) rfl
    (fun as hp pc => cond (Nat.beq pc 4) (some (fun L hp' => hp' = hp ∧ ∃ (h : Int32) (i : Nat) (x a : Int32), as = [.ref 1, .int h] ∧ L = [some (.ref 1), some (.int h), some (.int a), some (.int x)] ∧ x = nI i ∧ i ≤ szN hp ∧ a = lp (bC_dies hp h) i 0)) none) (fun _ L _ => msk 100 3 L)
    (fun as hp hl h => by
      obtain ⟨b, rfl, hP⟩ := ct1_s h
      exact ⟨rfl, rfl, b, 0, 0, 0, rfl, rfl, rfl, Nat.zero_le _, rfl⟩)
    (fun as hp hl h pc P hq L hp' hL _ => by
      obtain ⟨b, rfl, hP⟩ := ct1_s h
      obtain ⟨n, hn, hs, hsz⟩ := szE hP
      obtain ⟨rfl, rfl⟩ := at1 hq
      obtain ⟨rfl, b', i, x, a, heq, rfl, ex, hi, ea⟩ := hL
      cases heq
      rw [hsz] at hi
      refine ⟨fun c9 => ⟨rfl, ?_, rfl⟩, fun c9 => ?_⟩
      · have := cge ex hs (by omega) (by omega) c9
        have : i = n := by omega
        subst this
        show some a = some (lp (bC_dies hp' b) (szN hp') 0)
        rw [ea, hsz]
      · have hlt := clt ex hs (by omega) (by omega) c9
        have hin : vp_in x 80 := inx ex (by omega) (by omega)
        have hx := nx ex (by omega)
        have hstep : lp (bC_dies hp' b) (i + 1) 0 = bC_dies hp' b i a := by rw [ea]; rfl
        refine ⟨hin, ⟨fun c18 => ⟨rfl, ⟨rfl, b, i + 1, _, _, rfl, rfl, inc1 ex, by omega, ?_⟩, dec1 ex (by omega) (by omega)⟩, fun c18 => ⟨⟨rfl, hin⟩, fun r24 => ⟨fun c27 => ⟨rfl, ⟨rfl, b, i + 1, _, _, rfl, rfl, inc1 ex, by omega, ?_⟩, dec1 ex (by omega) (by omega)⟩, fun c27 => ⟨hin, ⟨hin, ⟨rfl, ⟨rfl, b, i + 1, _, _, rfl, rfl, inc1 ex, by omega, ?_⟩, dec1 ex (by omega) (by omega)⟩⟩⟩⟩, fun e24 x24 => no0 x24⟩⟩⟩
        · have c18 : ¬ hp'.1 11 x.toNatClampNeg = 0 := c18
          rw [hx] at c18
          rw [hstep]
          unfold bC_dies
          rw [if_neg c18]
        · have c18 : hp'.1 11 x.toNatClampNeg = 0 := c18
          have c27 : (if bitAt (hp'.1 10 x.toNatClampNeg) b = 0 then (0 : Int32) else 1) = 0 := c27
          rw [hx] at c18 c27
          rw [hstep]
          unfold bC_dies
          rw [if_pos c18]
          split
          · rfl
          · rename_i hq9; rw [if_neg hq9] at c27; exact absurd c27 (by decide)
        · have c18 : hp'.1 11 x.toNatClampNeg = 0 := c18
          have c27 : ¬ (if bitAt (hp'.1 10 x.toNatClampNeg) b = 0 then (0 : Int32) else 1) = 0 := c27
          rw [hx] at c18 c27
          rw [hstep]
          unfold bC_dies
          rw [if_pos c18]
          split
          · rename_i hq9; rw [if_pos hq9] at c27; exact absurd rfl c27
          · show a ||| (bit1 (hp'.1 5 x.toNatClampNeg) ||| bit1 (hp'.1 6 x.toNatClampNeg)) = _
            rw [hx])
def bC_with (hp : mm_Hp) (die s : Int32) (k : Nat) (a : Int32) : Int32 := if hp.1 11 k = 0 then (if (if s = 0 then hp.1 5 k else hp.1 6 k) = die then a + 1 else a) else a
def sC_sureCoinsWith : mm_Ct := ct2 1 1 (fun _ _ hp => szOk hp) (fun _ _ _ => 0) (fun die s hp => lp (bC_with hp die s) (szN hp) 0) (fun _ _ hp => hp)
theorem M_C_sureCoinsWith {E : En} (hE : EOk E) : Mt E yC_sureCoinsWith cC_sureCoinsWith 5 (some .int) 2 sC_sureCoinsWith :=
  met (n := 60) (tab := tC_sureCoinsWith) (cals := [(84, sC_dieOf)]) hE flC_ok pfC_ok csC_ok rfl (by decide) kC_sureCoinsWith rfl
    (cf_v 42 (lC_42 (M_C_dieOf hE) (by decide) ct2_t rfl) cf_nil) (rt_i rfl) ct2_c (by decide) rfl
    (fun as hp pc => cond (Nat.beq pc 5) (some (fun L hp' => hp' = hp ∧ ∃ (die s : Int32) (i : Nat) (x a : Int32), as = [.ref 1, .int die, .int s] ∧ L = [some (.ref 1), some (.int die), some (.int s), some (.int a), some (.int x)] ∧ x = nI i ∧ i ≤ szN hp ∧ a = lp (bC_with hp die s) i 0)) none) (fun _ L _ => msk 100 4 L)
    (fun as hp hl h => by
      obtain ⟨die, s, rfl, hP⟩ := ct2_s h
      exact ⟨rfl, rfl, die, s, 0, 0, 0, rfl, rfl, rfl, Nat.zero_le _, rfl⟩)
    (fun as hp hl h pc P hq L hp' hL _ => by
      obtain ⟨die, s, rfl, hP⟩ := ct2_s h
      obtain ⟨n, hn, hs, hsz⟩ := szE hP
      obtain ⟨rfl, rfl⟩ := at1 hq
      obtain ⟨rfl, die', s', i, x, a, heq, rfl, ex, hi, ea⟩ := hL
      cases heq
      rw [hsz] at hi
      refine ⟨fun c9 => ⟨rfl, ?_, rfl⟩, fun c9 => ?_⟩
      · have := cge ex hs (by omega) (by omega) c9
        have : i = n := by omega
        subst this
        show some a = some (lp (bC_with hp' die s) (szN hp') 0)
        rw [ea, hsz]
      · have hlt := clt ex hs (by omega) (by omega) c9
        have hin : vp_in x 80 := inx ex (by omega) (by omega)
        have hx := nx ex (by omega)
        have hstep : lp (bC_with hp' die s) (i + 1) 0 = bC_with hp' die s i a := by rw [ea]; rfl
        refine ⟨hin, ⟨fun c21 => ⟨rfl, ⟨rfl, die, s, i + 1, _, _, rfl, rfl, inc1 ex, by omega, ?_⟩, dec1 ex (by omega) (by omega)⟩, fun c21 => ⟨⟨rfl, hin⟩, fun r28 => ⟨fun c32 => ⟨rfl, ⟨rfl, die, s, i + 1, _, _, rfl, rfl, inc1 ex, by omega, ?_⟩, dec1 ex (by omega) (by omega)⟩, fun c32 => ⟨rfl, ⟨rfl, die, s, i + 1, _, _, rfl, rfl, inc1 ex, by omega, ?_⟩, dec1 ex (by omega) (by omega)⟩⟩, fun e28 x28 => no0 x28⟩⟩⟩
        · have c21 : ¬ hp'.1 11 x.toNatClampNeg = 0 := c21
          rw [hx] at c21
          rw [hstep]
          unfold bC_with
          rw [if_neg c21]
        · have c21 : hp'.1 11 x.toNatClampNeg = 0 := c21
          have c32 : ¬ (if s = 0 then hp'.1 5 x.toNatClampNeg else hp'.1 6 x.toNatClampNeg) = die := c32
          rw [hx] at c21 c32
          rw [hstep]
          unfold bC_with
          rw [if_pos c21, if_neg c32]
        · have c21 : hp'.1 11 x.toNatClampNeg = 0 := c21
          have c32 : (if s = 0 then hp'.1 5 x.toNatClampNeg else hp'.1 6 x.toNatClampNeg) = die := c32
          rw [hx] at c21 c32
          rw [hstep]
          unfold bC_with
          rw [if_pos c21, if_pos c32]
          rfl)
