/-! ===== DieGraphs$Coins ===== -/
def sC_size : mm_Ct := ct0 1 1 (fun _ => True) (fun _ => 0) (fun hp => hp.1 1 7) (fun hp => hp)
theorem M_C_size {E : En} (hE : EOk E) : Mt E yC_size cC_size 1 (some .int) 1 sC_size :=
  metS (n := 10) (tab := tC_size) (cals := []) hE flC_ok pfC_ok csC_ok rfl (by decide) kC_size rfl cf_nil (rt_i rfl) ct0_c (by decide) rfl (fun as hp hl h => by
    obtain ⟨rfl, hP⟩ := ct0_s h
    exact ⟨rfl, rfl, rfl⟩)
def sC_dieOf : mm_Ct := ct2 1 1 (fun c _ _ => vp_in c 80) (fun _ _ _ => 0) (fun c s hp => if s = 0 then hp.1 5 c.toNatClampNeg else hp.1 6 c.toNatClampNeg) (fun _ _ hp => hp)
theorem M_C_dieOf {E : En} (hE : EOk E) : Mt E yC_dieOf cC_dieOf 3 (some .int) 1 sC_dieOf :=
  metS (n := 20) (tab := tC_dieOf) (cals := []) hE flC_ok pfC_ok csC_ok rfl (by decide) kC_dieOf rfl cf_nil (rt_i rfl) ct2_c (by decide) rfl (fun as hp hl h => by
    obtain ⟨c, s, rfl, hP⟩ := ct2_s h
    refine ⟨fun hs => ⟨hP, rfl, ?_, rfl⟩, fun hs => ⟨hP, rfl, ?_, rfl⟩⟩
    · exact congrArg some (if_neg hs).symm
    · exact congrArg some (if_pos hs).symm)
def sC_milligramsOf : mm_Ct := ct1 1 1 (fun c _ => vp_in c 80) (fun _ _ => 0) (fun c hp => hp.1 7 c.toNatClampNeg) (fun _ hp => hp)
theorem M_C_milligramsOf {E : En} (hE : EOk E) : Mt E yC_milligramsOf cC_milligramsOf 2 (some .int) 1 sC_milligramsOf :=
  metS (n := 20) (tab := tC_milligramsOf) (cals := []) hE flC_ok pfC_ok csC_ok rfl (by decide) kC_milligramsOf rfl cf_nil (rt_i rfl) ct1_c (by decide) rfl (fun as hp hl h => by
    obtain ⟨c, rfl, hP⟩ := ct1_s h
    exact ⟨hP, rfl, rfl, rfl⟩)
def sC_stageOf : mm_Ct := ct2 1 1 (fun c _ _ => vp_in c 80) (fun _ _ _ => 0) (fun c s hp => if s = 0 then hp.1 8 c.toNatClampNeg else hp.1 9 c.toNatClampNeg) (fun _ _ hp => hp)
theorem M_C_stageOf {E : En} (hE : EOk E) : Mt E yC_stageOf cC_stageOf 3 (some .int) 1 sC_stageOf :=
  metS (n := 20) (tab := tC_stageOf) (cals := []) hE flC_ok pfC_ok csC_ok rfl (by decide) kC_stageOf rfl cf_nil (rt_i rfl) ct2_c (by decide) rfl (fun as hp hl h => by
    obtain ⟨c, s, rfl, hP⟩ := ct2_s h
    refine ⟨fun hs => ⟨hP, rfl, ?_, rfl⟩, fun hs => ⟨hP, rfl, ?_, rfl⟩⟩
    · exact congrArg some (if_neg hs).symm
    · exact congrArg some (if_pos hs).symm)
def sC_setStage : mm_Ct := ct3 1 0 (fun c _ _ _ => vp_in c 80) (fun _ _ _ _ => 0) (fun _ _ _ _ => 0) (fun c s x hp => if s = 0 then (mm_up hp.1 8 c.toNatClampNeg x, hp.2) else (mm_up hp.1 9 c.toNatClampNeg x, hp.2))
theorem M_C_setStage {E : En} (hE : EOk E) : Mt E yC_setStage cC_setStage 4 none 1 sC_setStage :=
  metS (n := 20) (tab := tC_setStage) (cals := []) hE flC_ok pfC_ok csC_ok rfl (by decide) kC_setStage rfl cf_nil (rt_v rfl) ct3_c (by decide) rfl (fun as hp hl h => by
    obtain ⟨c, s, x, rfl, hP⟩ := ct3_s h
    refine ⟨fun hs => ⟨hP, rfl, rfl, ?_⟩, fun hs => ⟨hP, rfl, rfl, ?_⟩⟩
    · exact (if_neg hs).symm
    · exact (if_pos hs).symm)
def sC_isDoubted : mm_Ct := ct1 1 1 (fun c hp => vp_in c 80 ∧ isB (hp.1 11 c.toNatClampNeg)) (fun _ _ => 0) (fun c hp => hp.1 11 c.toNatClampNeg) (fun _ hp => hp)
theorem M_C_isDoubted {E : En} (hE : EOk E) : Mt E yC_isDoubted cC_isDoubted 2 (some .boolean) 1 sC_isDoubted :=
  metS (n := 20) (tab := tC_isDoubted) (cals := []) hE flC_ok pfC_ok csC_ok rfl (by decide) kC_isDoubted rfl cf_nil (rt_z rfl (fun as hp h => by obtain ⟨c, rfl, hP⟩ := ct1_s h; exact hP.2)) ct1_c (by decide) rfl (fun as hp hl h => by
    obtain ⟨c, rfl, hP⟩ := ct1_s h
    exact ⟨hP.1, rfl, rfl, rfl⟩)
theorem isB_v {x : Int32} (h : isB x) : vp_nar .boolean x = x := by
  rcases h with rfl | rfl <;> decide +kernel
def sC_setDoubt : mm_Ct := ct2 1 0 (fun c b _ => vp_in c 80 ∧ isB b) (fun _ _ _ => 0) (fun _ _ _ => 0) (fun c b hp => (mm_up hp.1 11 c.toNatClampNeg b, hp.2))
theorem M_C_setDoubt {E : En} (hE : EOk E) : Mt E yC_setDoubt cC_setDoubt 3 none 1 sC_setDoubt :=
  metS (n := 20) (tab := tC_setDoubt) (cals := []) hE flC_ok pfC_ok csC_ok rfl (by decide) kC_setDoubt rfl cf_nil (rt_v rfl) ct2_c (by decide) rfl (fun as hp hl h => by
    obtain ⟨c, b, rfl, hP⟩ := ct2_s h
    refine ⟨hP.1, rfl, rfl, ?_⟩
    show (mm_up hp.1 11 c.toNatClampNeg (vp_nar .boolean b), hp.2) = (mm_up hp.1 11 c.toNatClampNeg b, hp.2)
    rw [isB_v hP.2])
def fC_add (f b m : Int32) (hp : mm_Hp) : mm_Hp := (mm_up (mm_up (mm_up (mm_up (mm_up (mm_up hp.1 5 (szN hp) f) 6 (szN hp) b) 7 (szN hp) m) 8 (szN hp) (-1)) 9 (szN hp) (-1)) 1 7 (hp.1 1 7 + 1), hp.2)
def sC_add : mm_Ct := ct3 1 1 (fun _ _ _ hp => vp_in (hp.1 1 7) 80) (fun _ _ _ _ => 0) (fun _ _ _ hp => hp.1 1 7) fC_add
theorem M_C_add {E : En} (hE : EOk E) : Mt E yC_add cC_add 5 (some .int) 1 sC_add :=
  metS (n := 60) (tab := tC_add) (cals := []) hE flC_ok pfC_ok csC_ok rfl (by decide) kC_add rfl cf_nil (rt_i rfl) ct3_c (by decide) rfl (fun as hp hl h => by
    obtain ⟨f, b, m, rfl, hP⟩ := ct3_s h
    exact ⟨hP, hP, hP, hP, hP, rfl, rfl, rfl⟩)
/-- how many of the first n are not 0 -/
def cnt1 (f : Nat → Int32) (n : Nat) : Int32 := lp (fun k a => if f k = 0 then a else a + 1) n 0
def sC_doubted : mm_Ct := ct0 1 1 szOk (fun _ => 0) (fun hp => cnt1 (hp.1 11) (szN hp)) (fun hp => hp)
theorem M_C_doubted {E : En} (hE : EOk E) : Mt E yC_doubted cC_doubted 3 (some .int) 1 sC_doubted :=
  met (n := 40) (tab := tC_doubted) (cals := []) hE flC_ok pfC_ok csC_ok rfl (by decide) kC_doubted rfl cf_nil (rt_i rfl) ct0_c (by decide) rfl
    (fun _ hp pc => cond (Nat.beq pc 4) (some (fun L hp' => hp' = hp ∧ ∃ i : Nat, i ≤ szN hp ∧ L = [some (.ref 1), some (.int (cnt1 (hp.1 11) i)), some (.int (nI i))])) none) (fun _ L _ => msk 100 2 L)
    (fun as hp hl h => by
      obtain ⟨rfl, hP⟩ := ct0_s h
      exact ⟨rfl, rfl, 0, Nat.zero_le _, rfl⟩)
    (fun as hp hl h pc P hq L hp' hL _ => by
      obtain ⟨rfl, hP⟩ := ct0_s h
      obtain ⟨hs, hsz⟩ := szOk.eq hP
      obtain ⟨rfl, rfl⟩ := at1 hq
      obtain ⟨rfl, i, hi, rfl⟩ := hL
      have hms : msk 100 2 [some (Value.ref 1), some (.int (cnt1 (hp'.1 11) i)), some (.int (nI i))] = 100 - i := by
        show 100 - (nI i).toNatClampNeg = 100 - i
        rw [nIc (by omega)]
      rw [hms]
      refine ⟨fun hge => ⟨rfl, ?_, rfl⟩, fun hlt => ⟨?_, fun h0 => ?_, fun h0 => ?_⟩⟩
      · rw [hs] at hge
        have := (nI_leI (by omega) (by omega)).mp hge
        have hi2 : i = szN hp' := by omega
        subst hi2
        rfl
      · rw [hs] at hlt
        have := mt (nI_leI (a := szN hp') (b := i) (by omega) (by omega)).mpr hlt
        exact nIv (by omega) (by omega)
      · rw [hs] at hlt
        have := mt (nI_leI (a := szN hp') (b := i) (by omega) (by omega)).mpr hlt
        have h0 : hp'.1 11 (nI i).toNatClampNeg = 0 := h0
        rw [nIc (by omega)] at h0
        refine ⟨rfl, ⟨rfl, i + 1, by omega, ?_⟩, ?_⟩
        · show [some (Value.ref 1), some (.int (cnt1 (hp'.1 11) i)), some (.int (nI i + 1))] = _
          rw [nI_1]
          show _ = [some (Value.ref 1), some (.int (if hp'.1 11 i = 0 then cnt1 (hp'.1 11) i else cnt1 (hp'.1 11) i + 1)), some (.int (nI (i + 1)))]
          rw [if_pos h0]
        · show 100 - (nI i + 1).toNatClampNeg < 100 - i
          rw [nI_1, nIc (by omega)]
          omega
      · rw [hs] at hlt
        have := mt (nI_leI (a := szN hp') (b := i) (by omega) (by omega)).mpr hlt
        have h0 : ¬ hp'.1 11 (nI i).toNatClampNeg = 0 := h0
        rw [nIc (by omega)] at h0
        refine ⟨rfl, ⟨rfl, i + 1, by omega, ?_⟩, ?_⟩
        · show [some (Value.ref 1), some (.int (cnt1 (hp'.1 11) i + 1)), some (.int (nI i + 1))] = _
          rw [nI_1]
          show _ = [some (Value.ref 1), some (.int (if hp'.1 11 i = 0 then cnt1 (hp'.1 11) i else cnt1 (hp'.1 11) i + 1)), some (.int (nI (i + 1)))]
          rw [if_neg h0]
        · show 100 - (nI i + 1).toNatClampNeg < 100 - i
          rw [nI_1, nIc (by omega)]
          omega)
