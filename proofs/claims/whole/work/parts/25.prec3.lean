/-! ===== DieGraphs$Precedence: the ring ===== -/
def fOrder (hp : mm_Hp) : mm_Hp :=
  let h1 := sR hp 16 (fRows hp)
  let h2 := sR h1 15 (fPart h1)
  let h3 := sR h2 16 (fStg h2 0)
  let h4 := sR h3 16 (fStg h3 1)
  sR h4 17 (fClose h4)
def prOk (hp : mm_Hp) : Prop := pcOk hp ∧ rwOk hp
def sP_build : mm_Ct := ct0 3 0 prOk (fun _ => 0) (fun _ => 0) fOrder
theorem M_P_build {E : En} (hE : EOk E) : Mt E yP_build cP_build 1 none 4 sP_build :=
  metS (n := 40) (tab := tP_build) (cals := [(96, sP_addRowsToNext), (102, sP_gatherPartners), (108, sP_addStagesToNext), (116, sP_closeLater)]) hE flP_ok pfP_ok csP_ok rfl (by decide) kP_build rfl
    (cf_v 48 (lP_48 (M_P_addRowsToNext hE) (by decide) ct0_t rfl) (cf_v 51 (lP_51 (M_P_gatherPartners hE) (by decide) ct0_t rfl) (cf_v 54 (lP_54 (M_P_addStagesToNext hE) (by decide) ct1_t rfl) (cf_v 58 (lP_58 (M_P_closeLater hE) (by decide) ct0_t rfl) cf_nil)))) (rt_v rfl) ct0_c (by decide) rfl (fun as hp hl h => by
    obtain ⟨rfl, hP⟩ := ct0_s h
    refine ⟨⟨rfl, hP.2⟩, fun r1 => ⟨⟨rfl, pcOk_sR hP.1 (by omega) _⟩, fun r5 => ⟨⟨rfl, pcOk_sR (pcOk_sR hP.1 (by omega) _) (by omega) _, Or.inl rfl⟩, fun r10 => ⟨⟨rfl, pcOk_sR (pcOk_sR (pcOk_sR hP.1 (by omega) _) (by omega) _) (by omega) _, Or.inr rfl⟩, fun r15 => ⟨⟨rfl, trivial⟩, fun r19 => ⟨rfl, rfl, rfl⟩, fun e19 x19 => no0 x19⟩, fun e15 x15 => no0 x15⟩, fun e10 x10 => no0 x10⟩, fun e5 x5 => no0 x5⟩, fun e1 x1 => no0 x1⟩)
def bBefore (f : Nat → Int32) (set : Int32) (k : Nat) (a : Int32) : Int32 := if f k &&& set = 0 then a else a ||| bit1 (nI k)
def fBefore (f : Nat → Int32) (set : Int32) : Int32 := lp (bBefore f set) 32 0
def sP_diesDirectlyBefore : mm_Ct := ct1 3 1 (fun _ _ => True) (fun _ _ => 0) (fun set hp => fBefore (hp.1 16) set) (fun _ hp => hp)
theorem M_P_diesDirectlyBefore {E : En} (hE : EOk E) : Mt E yP_diesDirectlyBefore cP_diesDirectlyBefore 4 (some .int) 1 sP_diesDirectlyBefore :=
  met (n := 60) (tab := tP_diesDirectlyBefore) (cals := []) hE flP_ok pfP_ok csP_ok rfl (by decide) kP_diesDirectlyBefore rfl cf_nil (rt_i rfl) ct1_c (by decide) rfl
    (fun as hp pc => cond (Nat.beq pc 4) (some (fun L hp' => hp' = hp ∧ ∃ (set : Int32) (i : Nat) (x a : Int32), as = [.ref 3, .int set] ∧ L = [some (.ref 3), some (.int set), some (.int a), some (.int x)] ∧ x = nI i ∧ i ≤ 32 ∧ a = lp (bBefore (hp.1 16) set) i 0)) none) (fun _ L _ => msk 100 3 L)
    (fun as hp hl h => by
      obtain ⟨set, rfl, hP⟩ := ct1_s h
      exact ⟨rfl, rfl, set, 0, _, _, rfl, rfl, rfl, by omega, rfl⟩)
    (fun as hp hl h pc P hq L hp' hL _ => by
      obtain ⟨rfl, rfl⟩ := at1 hq
      obtain ⟨rfl, set, i, x, a, rfl, rfl, ex, hi, ea⟩ := hL
      have hx := nx ex (by omega)
      refine ⟨fun c7 => ⟨rfl, ?_, rfl⟩, fun c7 => ?_⟩
      · have := cge ex (n := 32) rfl (by omega) (by omega) c7
        have hi2 : i = 32 := by omega
        subst hi2
        exact congrArg some ea
      · have hlt := clt ex (n := 32) rfl (by omega) (by omega) c7
        have hstep : lp (bBefore (hp'.1 16) set) (i + 1) 0 = bBefore (hp'.1 16) set i a := by rw [ea]; rfl
        refine ⟨inx ex hlt (by omega), ⟨fun c18 => ⟨rfl, ⟨rfl, set, i + 1, _, _, rfl, rfl, inc1 ex, by omega, ?_⟩, dec1 ex (by omega) (by omega)⟩, fun c18 => ⟨rfl, ⟨rfl, set, i + 1, _, _, rfl, rfl, inc1 ex, by omega, ?_⟩, dec1 ex (by omega) (by omega)⟩⟩⟩
        · have c18 : hp'.1 16 x.toNatClampNeg &&& set = 0 := c18
          rw [hx] at c18
          rw [hstep]
          unfold bBefore
          rw [if_pos c18]
        · have c18 : ¬ hp'.1 16 x.toNatClampNeg &&& set = 0 := c18
          rw [hx] at c18
          rw [hstep]
          unfold bBefore
          rw [if_neg c18, ← ex]
          rfl)
/-- the lowest die of a set, from k on, n dies looked at; -1: none -/
def fLowF (set : Int32) : Nat → Nat → Int32
  | 0, _ => -1
  | n + 1, k => if bitAt set (nI k) = 0 then fLowF set n (k + 1) else nI k
def fLow (set : Int32) : Int32 := fLowF set 32 0
def sP_lowestOf : mm_Ct := cs1 1 (fun _ _ => True) (fun _ _ => 0) (fun set _ => fLow set)
theorem M_P_lowestOf {E : En} (hE : EOk E) : Mt E yP_lowestOf cP_lowestOf 2 (some .int) 2 sP_lowestOf :=
  met (n := 60) (tab := tP_lowestOf) (cals := [(89, sG_contains)]) hE flP_ok pfP_ok csP_ok rfl (by decide) kP_lowestOf rfl (cf_s 44 (lP_c hE (by decide)) cf_nil) (rt_i rfl) cs1_c (by decide) rfl
    (fun as hp pc => cond (Nat.beq pc 2) (some (fun L hp' => hp' = hp ∧ ∃ (set : Int32) (i : Nat) (x : Int32), as = [.int set] ∧ L = [some (.int set), some (.int x)] ∧ x = nI i ∧ i ≤ 32 ∧ fLowF set (32 - i) i = fLow set)) none) (fun _ L _ => msk 100 1 L)
    (fun as hp hl h => by
      obtain ⟨set, rfl, hP⟩ := cs1_s h
      exact ⟨rfl, rfl, set, 0, _, rfl, rfl, rfl, by omega, rfl⟩)
    (fun as hp hl h pc P hq L hp' hL _ => by
      obtain ⟨rfl, rfl⟩ := at1 hq
      obtain ⟨rfl, set, i, x, rfl, rfl, ex, hi, ee⟩ := hL
      refine ⟨fun c5 => ⟨rfl, ?_, rfl⟩, fun c5 => ?_⟩
      · have := cge ex (n := 32) rfl (by omega) (by omega) c5
        have hi2 : i = 32 := by omega
        subst hi2
        exact congrArg some ee
      · have hlt := clt ex (n := 32) rfl (by omega) (by omega) c5
        have hu : fLowF set (32 - i) i = if bitAt set (nI i) = 0 then fLowF set (32 - (i + 1)) (i + 1) else nI i := by
          rw [show 32 - i = (32 - (i + 1)) + 1 by omega]; rfl
        refine ⟨trivial, fun r10 => ⟨fun c13 => ⟨rfl, ⟨rfl, set, i + 1, _, rfl, rfl, inc1 ex, by omega, ?_⟩, dec1 ex (by omega) (by omega)⟩, fun c13 => ⟨rfl, ?_, rfl⟩⟩, fun e10 x10 => no0 x10⟩
        · have c13 : (if bitAt set x = 0 then (0 : Int32) else 1) = 0 := c13
          rw [ex] at c13
          rw [← ee, hu]
          split
          · rfl
          · rename_i hq9; rw [if_neg hq9] at c13; exact absurd c13 (by decide)
        · have c13 : ¬ (if bitAt set x = 0 then (0 : Int32) else 1) = 0 := c13
          rw [ex] at c13
          show some x = some (fLow set)
          rw [← ee, hu]
          split
          · rename_i hq9; rw [if_pos hq9] at c13; exact absurd rfl c13
          · rw [ex])
/-- the steps towards a die: n looked at, from s on -/
def fShF (f : Nat → Int32) (die : Int32) : Nat → Nat → (Nat → Int32) → Int32 × (Nat → Int32)
  | 0, _, g => (33, g)
  | n + 1, s, g => if bitAt (upd g s (fBefore f (g (s - 1))) s) die = 0 then fShF f die n (s + 1) (upd g s (fBefore f (g (s - 1)))) else (nI s, upd g s (fBefore f (g (s - 1))))
def fSh (die : Int32) (hp : mm_Hp) : Int32 × (Nat → Int32) := if bitAt (hp.1 17 die.toNatClampNeg) die = 0 then (33, hp.1 18) else fShF (hp.1 16) die 32 1 (upd (hp.1 18) 0 (bit1 die))
def sP_shortestRingWith : mm_Ct := ct1 3 1 (fun d _ => vp_in d 32) (fun _ _ => 0) (fun d hp => (fSh d hp).1) (fun d hp => sR hp 18 (fSh d hp).2)
theorem M_P_shortestRingWith {E : En} (hE : EOk E) : Mt E yP_shortestRingWith cP_shortestRingWith 3 (some .int) 2 sP_shortestRingWith :=
  met (n := 60) (tab := tP_shortestRingWith) (cals := [(89, sG_contains), (190, sP_diesDirectlyBefore)]) hE flP_ok pfP_ok csP_ok rfl (by decide) kP_shortestRingWith rfl (cf_s 44 (lP_c hE (by decide)) (cf_v 95 (lP_95 (M_P_diesDirectlyBefore hE) (by decide) ct1_t rfl) cf_nil)) (rt_i rfl) ct1_c (by decide) rfl
    (fun as hp pc => cond (Nat.beq pc 27) (some (fun L hp' => ∃ (d : Int32) (i : Nat) (x : Int32) (g : Nat → Int32), as = [.ref 3, .int d] ∧ L = [some (.ref 3), some (.int d), some (.int x)] ∧ x = nI (i + 1) ∧ i ≤ 32 ∧ hp' = sR hp 18 g ∧ fShF (hp.1 16) d (32 - i) (i + 1) g = fSh d hp)) none) (fun _ L _ => msk 100 2 L)
    (fun as hp hl h => by
      obtain ⟨d, rfl, hP⟩ := ct1_s h
      refine ⟨hP, trivial, fun r7 => ⟨fun c10 => ⟨?_, ⟨rfl, d, 0, _, upd (hp.1 18) 0 (bit1 d), rfl, rfl, rfl, by omega, ?_, ?_⟩⟩, fun c10 => ⟨rfl, ?_, ?_⟩⟩, fun e7 x7 => no0 x7⟩
      · exact nIv (i := 0) (n := 33) (by omega) (by omega)
      · show (mm_up hp.1 18 (0 : Int32).toNatClampNeg (bit1 d), hp.2) = _
        rw [up_as]
        rfl
      · have c10 : ¬ (if bitAt (hp.1 17 d.toNatClampNeg) d = 0 then (0 : Int32) else 1) = 0 := c10
        unfold fSh
        split
        · rename_i hq9; rw [if_pos hq9] at c10; exact absurd rfl c10
        · rfl
      · have c10 : (if bitAt (hp.1 17 d.toNatClampNeg) d = 0 then (0 : Int32) else 1) = 0 := c10
        show some 33 = some (fSh d hp).1
        unfold fSh
        split
        · rfl
        · rename_i hq9; rw [if_neg hq9] at c10; exact absurd c10 (by decide)
      · have c10 : (if bitAt (hp.1 17 d.toNatClampNeg) d = 0 then (0 : Int32) else 1) = 0 := c10
        show hp = sR hp 18 (fSh d hp).2
        unfold fSh
        split
        · exact (sR_self hp 18).symm
        · rename_i hq9; rw [if_neg hq9] at c10; exact absurd c10 (by decide))
    (fun as hp hl h pc P hq L hp' hL _ => by
      obtain ⟨d, rfl, hP⟩ := ct1_s h
      obtain ⟨rfl, rfl⟩ := at1 hq
      obtain ⟨d', i, x, g, heq, rfl, ex, hi, rfl, ee⟩ := hL
      cases heq
      have hx := nx ex (by omega)
      refine ⟨fun c30 => ⟨rfl, ?_, ?_⟩, fun c30 => ?_⟩
      · have c30 : (32 : Int32) < x := c30
        have hi2 : i = 32 := by
          rw [ex] at c30
          have := (nI_ltI (a := 32) (b := i + 1) (by omega) (by omega)).mp c30
          omega
        subst hi2
        show some 33 = some (fSh d hp).1
        rw [← ee]
        rfl
      · have c30 : (32 : Int32) < x := c30
        have hi2 : i = 32 := by
          rw [ex] at c30
          have := (nI_ltI (a := 32) (b := i + 1) (by omega) (by omega)).mp c30
          omega
        subst hi2
        show sR hp 18 g = sR hp 18 (fSh d hp).2
        rw [← ee]
        rfl
      · have c30 : ¬ (32 : Int32) < x := c30
        have hlt : i < 32 := by
          rw [ex] at c30
          exact Nat.lt_of_not_le (fun q => c30 ((nI_ltI (a := 32) (b := i + 1) (by omega) (by omega)).mpr (by omega)))
        have hu : fShF (hp.1 16) d (32 - i) (i + 1) g = if bitAt (upd g (i + 1) (fBefore (hp.1 16) (g i)) (i + 1)) d = 0 then fShF (hp.1 16) d (32 - (i + 1)) (i + 1 + 1) (upd g (i + 1) (fBefore (hp.1 16) (g i))) else (nI (i + 1), upd g (i + 1) (fBefore (hp.1 16) (g i))) := by
          rw [show 32 - i = (32 - (i + 1)) + 1 by omega]; rfl
        have hx1 : x - 1 = nI i := by rw [ex]; exact nI_pred i
        have hin : vp_in x 33 := inx ex (by omega) (by omega)
        have hg : (mm_up (sR hp 18 g).1 18 x.toNatClampNeg (fBefore (hp.1 16) (g (x - 1).toNatClampNeg)), (sR hp 18 g).2) = sR hp 18 (upd g (i + 1) (fBefore (hp.1 16) (g i))) := by
          rw [up_sR, hx, hx1, nIc (by omega)]
        refine ⟨?_, ⟨⟨rfl, trivial⟩, fun r47 => ⟨hin, ⟨hin, ⟨trivial, fun r58 => ⟨fun c61 => ⟨rfl, ⟨d, i + 1, _, upd g (i + 1) (fBefore (hp.1 16) (g i)), rfl, rfl, inc1 ex, by omega, hg, ?_⟩, dec1 ex (by omega) (by omega)⟩, fun c61 => ⟨rfl, ?_, ?_⟩⟩, fun e58 x58 => no0 x58⟩⟩⟩, fun e47 x47 => no0 x47⟩⟩
        · show vp_in (x - 1) 33
          rw [hx1]; exact nIv (by omega) (by omega)
        · have c61 : (if bitAt (mm_up (sR hp 18 g).1 18 x.toNatClampNeg (fBefore (hp.1 16) (g (x - 1).toNatClampNeg)) 18 x.toNatClampNeg) d = 0 then (0 : Int32) else 1) = 0 := c61
          rw [mm_up_s, sR_at, hx, hx1, nIc (by omega)] at c61
          rw [← ee, hu]
          split
          · rfl
          · rename_i hq9; rw [if_neg hq9] at c61; exact absurd c61 (by decide)
        · have c61 : ¬ (if bitAt (mm_up (sR hp 18 g).1 18 x.toNatClampNeg (fBefore (hp.1 16) (g (x - 1).toNatClampNeg)) 18 x.toNatClampNeg) d = 0 then (0 : Int32) else 1) = 0 := c61
          rw [mm_up_s, sR_at, hx, hx1, nIc (by omega)] at c61
          show some x = some (fSh d hp).1
          rw [← ee, hu]
          split
          · rename_i hq9; rw [if_pos hq9] at c61; exact absurd rfl c61
          · rw [ex]
        · have c61 : ¬ (if bitAt (mm_up (sR hp 18 g).1 18 x.toNatClampNeg (fBefore (hp.1 16) (g (x - 1).toNatClampNeg)) 18 x.toNatClampNeg) d = 0 then (0 : Int32) else 1) = 0 := c61
          rw [mm_up_s, sR_at, hx, hx1, nIc (by omega)] at c61
          show (mm_up (sR hp 18 g).1 18 x.toNatClampNeg (fBefore (hp.1 16) (g (x - 1).toNatClampNeg)), (sR hp 18 g).2) = sR hp 18 (fSh d hp).2
          rw [hg, ← ee, hu]
          split
          · rename_i hq9; rw [if_pos hq9] at c61; exact absurd rfl c61
          · rfl)
