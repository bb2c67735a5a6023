/-! ===== DieGraphs$Precedence: rows, ring, order ===== -/
def sP_rows : mm_Ct := ct0 3 1 (fun _ => True) (fun _ => 0) (fun hp => hp.1 3 3) (fun hp => hp)
theorem M_P_rows {E : En} (hE : EOk E) : Mt E yP_rows cP_rows 1 (some .int) 1 sP_rows :=
  metS (n := 10) (tab := tP_rows) (cals := []) hE flP_ok pfP_ok csP_ok rfl (by decide) kP_rows rfl cf_nil (rt_i rfl) ct0_c (by decide) rfl (fun as hp hl h => by
    obtain ⟨rfl, hP⟩ := ct0_s h
    exact ⟨rfl, rfl, rfl⟩)
def rwN (hp : mm_Hp) : Nat := (hp.1 3 3).toNatClampNeg
def fAddRow (b a : Int32) (hp : mm_Hp) : mm_Hp := (mm_up (mm_up (mm_up hp.1 13 (rwN hp) b) 14 (rwN hp) a) 3 3 (hp.1 3 3 + 1), hp.2)
def sP_addRow : mm_Ct := ct2 3 0 (fun _ _ hp => vp_in (hp.1 3 3) 60) (fun _ _ _ => 0) (fun _ _ _ => 0) fAddRow
theorem M_P_addRow {E : En} (hE : EOk E) : Mt E yP_addRow cP_addRow 3 none 1 sP_addRow :=
  metS (n := 30) (tab := tP_addRow) (cals := []) hE flP_ok pfP_ok csP_ok rfl (by decide) kP_addRow rfl cf_nil (rt_v rfl) ct2_c (by decide) rfl (fun as hp hl h => by
    obtain ⟨b, a, rfl, hP⟩ := ct2_s h
    exact ⟨hP, hP, rfl, rfl, rfl⟩)
def fDropRow (hp : mm_Hp) : mm_Hp := if hp.1 3 3 ≤ 0 then hp else (mm_up hp.1 3 3 (hp.1 3 3 - 1), hp.2)
def sP_dropLastRow : mm_Ct := ct0 3 0 (fun _ => True) (fun _ => 0) (fun _ => 0) fDropRow
theorem M_P_dropLastRow {E : En} (hE : EOk E) : Mt E yP_dropLastRow cP_dropLastRow 1 none 1 sP_dropLastRow :=
  metS (n := 30) (tab := tP_dropLastRow) (cals := []) hE flP_ok pfP_ok csP_ok rfl (by decide) kP_dropLastRow rfl cf_nil (rt_v rfl) ct0_c (by decide) rfl (fun as hp hl h => by
    obtain ⟨rfl, hP⟩ := ct0_s h
    refine ⟨fun c4 => ⟨rfl, rfl, ?_⟩, fun c4 => ⟨rfl, rfl, ?_⟩⟩
    · exact (if_pos c4).symm
    · exact (if_neg c4).symm)
def tlOk (hp : mm_Hp) : Prop := ∃ t, t ≤ 32 ∧ hp.1 3 9 = nI t
def sP_ringAt : mm_Ct := ct1 3 1 (fun p hp => ¬ p < 0 ∧ tlOk hp) (fun _ _ => 0) (fun p hp => if hp.1 3 9 ≤ p then -1 else hp.1 19 p.toNatClampNeg) (fun _ hp => hp)
theorem M_P_ringAt {E : En} (hE : EOk E) : Mt E yP_ringAt cP_ringAt 2 (some .int) 1 sP_ringAt :=
  metS (n := 30) (tab := tP_ringAt) (cals := []) hE flP_ok pfP_ok csP_ok rfl (by decide) kP_ringAt rfl cf_nil (rt_i rfl) ct1_c (by decide) rfl (fun as hp hl h => by
    obtain ⟨p, rfl, hp0, t, ht, et⟩ := ct1_s h
    refine ⟨fun c5 => ⟨rfl, ?_, rfl⟩, fun c5 => ⟨?_, rfl, ?_, rfl⟩⟩
    · exact congrArg some (if_pos c5).symm
    · have c5 : ¬ hp.1 3 9 ≤ p := c5
      rw [et] at c5
      obtain ⟨j, hj, rfl⟩ := nI_of hp0
      have : j < t := Nat.lt_of_not_le (fun q => c5 ((nI_leI (by omega) (by omega)).mpr q))
      exact nIv (by omega) (by omega)
    · exact congrArg some (if_neg c5).symm)
def sP_isEarlier : mm_Ct := ct2 3 1 (fun a _ _ => vp_in a 32) (fun _ _ _ => 0) (fun a b hp => if bitAt (hp.1 17 a.toNatClampNeg) b = 0 then 0 else 1) (fun _ _ hp => hp)
theorem lP_c {E : En} (hE : EOk E) {d : Nat} (hd : 1 < d) : CallFine E RX2 d true 44 sG_contains := lP_44 hE (M_G_contains hE) hd rfl (fun as hp h => by obtain ⟨a, b, rfl, -⟩ := cs2_s h; rfl)
theorem M_P_isEarlier {E : En} (hE : EOk E) : Mt E yP_isEarlier cP_isEarlier 3 (some .boolean) 2 sP_isEarlier :=
  metS (n := 30) (tab := tP_isEarlier) (cals := [(89, sG_contains)]) hE flP_ok pfP_ok csP_ok rfl (by decide) kP_isEarlier rfl (cf_s 44 (lP_c hE (by decide)) cf_nil) (rt_z rfl (fun as hp h => by obtain ⟨a, b, rfl, -⟩ := ct2_s h; exact isB_if)) ct2_c (by decide) rfl (fun as hp hl h => by
    obtain ⟨a, b, rfl, hP⟩ := ct2_s h
    exact ⟨hP, trivial, fun r7 => ⟨rfl, rfl, rfl⟩, fun e7 x7 => no0 x7⟩)
/-- the rows: at most 60, of dies -/
def rwOk (hp : mm_Hp) : Prop := (∃ n, n ≤ 60 ∧ hp.1 3 3 = nI n) ∧ ∀ k, k < rwN hp → (∃ b, b < 32 ∧ hp.1 13 k = nI b) ∧ (∃ a, a < 32 ∧ hp.1 14 k = nI a)
theorem rwE {hp : mm_Hp} (h : rwOk hp) : ∃ n, n ≤ 60 ∧ hp.1 3 3 = nI n ∧ rwN hp = n := by
  obtain ⟨n, h1, h2⟩ := h.1
  exact ⟨n, h1, h2, by unfold rwN; rw [h2]; exact nIc (by omega)⟩
def zeroR (n : Nat) (g : Nat → Int32) : Nat → Int32 := lp (fun k g => upd g k 0) n g
def bRow (hp : mm_Hp) (k : Nat) (g : Nat → Int32) : Nat → Int32 := upd g (hp.1 13 k).toNatClampNeg (g (hp.1 13 k).toNatClampNeg ||| bit1 (hp.1 14 k))
def fRows (hp : mm_Hp) : Nat → Int32 := lp (bRow hp) (rwN hp) (zeroR 32 (hp.1 16))
def sP_addRowsToNext : mm_Ct := ct0 3 0 rwOk (fun _ => 0) (fun _ => 0) (fun hp => sR hp 16 (fRows hp))
theorem M_P_addRowsToNext {E : En} (hE : EOk E) : Mt E yP_addRowsToNext cP_addRowsToNext 2 none 1 sP_addRowsToNext :=
  met (n := 60) (tab := tP_addRowsToNext) (cals := []) hE flP_ok pfP_ok csP_ok rfl (by decide) kP_addRowsToNext rfl cf_nil (rt_v rfl) ct0_c (by decide) rfl
    (fun as hp pc => cond (Nat.beq pc 2) (some (fun L hp' => ∃ (i : Nat) (x : Int32) (g : Nat → Int32), L = [some (.ref 3), some (.int x)] ∧ x = nI i ∧ i ≤ 32 ∧ hp' = sR hp 16 g ∧ g = zeroR i (hp.1 16)))
      (cond (Nat.beq pc 23) (some (fun L hp' => ∃ (i : Nat) (x : Int32) (g : Nat → Int32), L = [some (.ref 3), some (.int x)] ∧ x = nI i ∧ i ≤ rwN hp ∧ hp' = sR hp 16 g ∧ g = lp (bRow hp) i (zeroR 32 (hp.1 16)))) none))
    (fun pc L _ => cond (Nat.beq pc 2) (200 + msk 100 1 L) (msk 100 1 L))
    (fun as hp hl h => by
      obtain ⟨rfl, hP⟩ := ct0_s h
      exact ⟨rfl, 0, _, hp.1 16, rfl, rfl, by omega, (sR_self hp 16).symm, rfl⟩)
    (fun as hp hl h pc P hq L hp' hL _ => by
      obtain ⟨rfl, hP⟩ := ct0_s h
      rcases at2 hq with ⟨rfl, rfl⟩ | ⟨rfl, rfl⟩
      · obtain ⟨i, x, g, rfl, ex, hi, rfl, eg⟩ := hL
        refine ⟨fun c5 => ⟨rfl, ⟨0, 0, g, rfl, rfl, Nat.zero_le _, rfl, ?_⟩, ?_⟩, fun c5 => ?_⟩
        · have := cge ex (n := 32) rfl (by omega) (by omega) c5
          have hi2 : i = 32 := by omega
          subst hi2
          rw [eg]
          rfl
        · show 100 - (0 : Int32).toNatClampNeg < 200 + (100 - x.toNatClampNeg)
          rw [show (0 : Int32).toNatClampNeg = 0 from rfl]
          omega
        · have hlt := clt ex (n := 32) rfl (by omega) (by omega) c5
          have hx := nx ex (by omega)
          refine ⟨inx ex hlt (by omega), ⟨rfl, ⟨i + 1, _, upd g i 0, rfl, inc1 ex, by omega, ?_, ?_⟩, ?_⟩⟩
          · show (mm_up (sR hp 16 g).1 16 x.toNatClampNeg 0, (sR hp 16 g).2) = _
            rw [up_sR, hx]
          · rw [eg]; rfl
          · have := dec1 ex (N := 100) (by omega) (by omega)
            show 200 + (100 - (x + 1).toNatClampNeg) < 200 + (100 - x.toNatClampNeg)
            omega
      · obtain ⟨i, x, g, rfl, ex, hi, rfl, eg⟩ := hL
        obtain ⟨n, hn, hs, hsz⟩ := rwE hP
        rw [hsz] at hi
        refine ⟨fun c28 => ⟨rfl, rfl, ?_⟩, fun c28 => ?_⟩
        · have := cge ex hs (by omega) (by omega) c28
          have hi2 : i = n := by omega
          subst hi2
          show sR hp 16 g = sR hp 16 (fRows hp)
          rw [eg]
          unfold fRows
          rw [hsz]
        · have hlt := clt ex hs (by omega) (by omega) c28
          have hin : vp_in x 60 := inx ex (by omega) (by omega)
          have hx := nx ex (by omega)
          obtain ⟨⟨b, hb, eb⟩, ⟨a, ha, ea⟩⟩ := hP.2 i (by omega)
          have hb9 : vp_in (hp.1 13 x.toNatClampNeg) 32 := by rw [hx, eb]; exact nIv hb (by omega)
          refine ⟨hin, ⟨hb9, ⟨hin, ⟨hb9, ⟨rfl, ⟨i + 1, _, bRow hp i g, rfl, inc1 ex, by omega, ?_, ?_⟩, dec1 ex (by omega) (by omega)⟩⟩⟩⟩⟩
          · show (mm_up (sR hp 16 g).1 16 (hp.1 13 x.toNatClampNeg).toNatClampNeg (g (hp.1 13 x.toNatClampNeg).toNatClampNeg ||| bit1 (hp.1 14 x.toNatClampNeg)), (sR hp 16 g).2) = _
            rw [up_sR, hx]
            rfl
          · rw [eg]; rfl)
/-- stages: -1, or 0 .. 9 -/
def stOk (x : Int32) : Prop := x = -1 ∨ ∃ t, t < 10 ∧ x = nI t
def dieS (hp : mm_Hp) (s : Nat) (k : Nat) : Int32 := if s = 0 then hp.1 5 k else hp.1 6 k
def stgS (hp : mm_Hp) (s : Nat) (k : Nat) : Int32 := if s = 0 then hp.1 8 k else hp.1 9 k
def pcOk (hp : mm_Hp) : Prop := cnOk hp ∧ ∀ k, k < szN hp → stOk (hp.1 8 k) ∧ stOk (hp.1 9 k)
theorem pcOk.die {hp : mm_Hp} (h : pcOk hp) {k : Nat} (hk : k < szN hp) (s : Nat) : ∃ d, d < 32 ∧ dieS hp s k = nI d := by
  obtain ⟨-, ⟨f, hf, ef⟩, ⟨b, hb1, hb2, eb⟩⟩ := h.1.2 k hk
  unfold dieS
  split
  · exact ⟨f, by omega, ef⟩
  · exact ⟨b, by omega, eb⟩
theorem pcOk.stg {hp : mm_Hp} (h : pcOk hp) {k : Nat} (hk : k < szN hp) (s : Nat) : stOk (stgS hp s k) := by
  unfold stgS
  split
  · exact (h.2 k hk).1
  · exact (h.2 k hk).2
def gPart (hp : mm_Hp) (s k : Nat) (g : Nat → Int32) : Nat → Int32 := if stgS hp s k = -1 then g else upd g (dieS hp s k * 10 + stgS hp s k).toNatClampNeg (g (dieS hp s k * 10 + stgS hp s k).toNatClampNeg ||| bit1 (dieS hp (1 - s) k))
def sP_gatherPartner : mm_Ct := ct2 3 0 (fun c s hp => pcOk hp ∧ ∃ k, k < szN hp ∧ c = nI k ∧ isB s) (fun _ _ _ => 0) (fun _ _ _ => 0) (fun c s hp => sR hp 15 (gPart hp s.toNatClampNeg c.toNatClampNeg (hp.1 15)))
theorem ix320 {d t : Nat} (hd : d < 32) (ht : t < 10) : nI d * 10 + nI t = nI (d * 10 + t) := by
  rw [show (10 : Int32) = nI 10 from rfl, pk_mul, nI_add]
theorem dieS_0 (hp : mm_Hp) (k : Nat) : (if (0 : Int32) = 0 then hp.1 5 k else hp.1 6 k) = hp.1 5 k := if_pos rfl
theorem dieS_1 (hp : mm_Hp) (k : Nat) : (if (1 : Int32) = 0 then hp.1 5 k else hp.1 6 k) = hp.1 6 k := if_neg (by decide)
theorem M_P_gatherPartner {E : En} (hE : EOk E) : Mt E yP_gatherPartner cP_gatherPartner 4 none 2 sP_gatherPartner :=
  metS (n := 60) (tab := tP_gatherPartner) (cals := [(170, sC_stageOf), (178, sC_dieOf)]) hE flP_ok pfP_ok csP_ok rfl (by decide) kP_gatherPartner rfl
    (cf_v 85 (lP_85 (M_C_stageOf hE) (by decide) ct2_t rfl) (cf_v 89 (lP_89 (M_C_dieOf hE) (by decide) ct2_t rfl) cf_nil)) (rt_v rfl) ct2_c (by decide) rfl (fun as hp hl h => by
    obtain ⟨c, s, rfl, hpc, k, hk, rfl, hs⟩ := ct2_s h
    obtain ⟨n, hn, hsz1, hsz⟩ := szE hpc.1.1
    have hkn : k < 80 := by omega
    have hin : vp_in (nI k) 80 := nIv hkn (by omega)
    have hx : (nI k).toNatClampNeg = k := nIc (by omega)
    have hst : (if s = 0 then hp.1 8 (nI k).toNatClampNeg else hp.1 9 (nI k).toNatClampNeg) = stgS hp s.toNatClampNeg k := by
      rw [hx]; rcases hs with rfl | rfl <;> rfl
    have hdi : (if s = 0 then hp.1 5 (nI k).toNatClampNeg else hp.1 6 (nI k).toNatClampNeg) = dieS hp s.toNatClampNeg k := by
      rw [hx]; rcases hs with rfl | rfl <;> rfl
    have hdo : (if 1 - s = 0 then hp.1 5 (nI k).toNatClampNeg else hp.1 6 (nI k).toNatClampNeg) = dieS hp (1 - s.toNatClampNeg) k := by
      rw [hx]; rcases hs with rfl | rfl <;> rfl
    have hidx : ¬ stgS hp s.toNatClampNeg k = -1 → vp_in (dieS hp s.toNatClampNeg k * 10 + stgS hp s.toNatClampNeg k) 320 := by
      intro hne
      obtain ⟨d, hd, ed⟩ := hpc.die hk s.toNatClampNeg
      rcases hpc.stg hk s.toNatClampNeg with h1 | ⟨t, ht, et⟩
      · exact absurd h1 hne
      · rw [ed, et, ix320 hd ht]; exact nIv (by omega) (by omega)
    refine ⟨⟨rfl, hin⟩, fun r6 => ⟨fun c12 => ⟨rfl, rfl, ?_⟩, fun c12 => ⟨⟨rfl, hin⟩, fun r25 => ⟨?_, ⟨⟨rfl, hin⟩, fun r44 => ⟨?_, ⟨rfl, rfl, ?_⟩⟩, fun e44 x44 => no0 x44⟩⟩, fun e25 x25 => no0 x25⟩⟩, fun e6 x6 => no0 x6⟩
    · have c12 : (if s = 0 then hp.1 8 (nI k).toNatClampNeg else hp.1 9 (nI k).toNatClampNeg) = -1 := c12
      rw [hst] at c12
      show hp = sR hp 15 (gPart hp s.toNatClampNeg (nI k).toNatClampNeg (hp.1 15))
      unfold gPart
      rw [hx, if_pos c12, sR_self]
    · have c12 : ¬ (if s = 0 then hp.1 8 (nI k).toNatClampNeg else hp.1 9 (nI k).toNatClampNeg) = -1 := c12
      show vp_in ((if s = 0 then hp.1 5 (nI k).toNatClampNeg else hp.1 6 (nI k).toNatClampNeg) * 10 + (if s = 0 then hp.1 8 (nI k).toNatClampNeg else hp.1 9 (nI k).toNatClampNeg)) 320
      rw [hst] at c12
      rw [hst, hdi]; exact hidx c12
    · have c12 : ¬ (if s = 0 then hp.1 8 (nI k).toNatClampNeg else hp.1 9 (nI k).toNatClampNeg) = -1 := c12
      show vp_in ((if s = 0 then hp.1 5 (nI k).toNatClampNeg else hp.1 6 (nI k).toNatClampNeg) * 10 + (if s = 0 then hp.1 8 (nI k).toNatClampNeg else hp.1 9 (nI k).toNatClampNeg)) 320
      rw [hst] at c12
      rw [hst, hdi]; exact hidx c12
    · have c12 : ¬ (if s = 0 then hp.1 8 (nI k).toNatClampNeg else hp.1 9 (nI k).toNatClampNeg) = -1 := c12
      rw [hst] at c12
      show (mm_up hp.1 15 ((if s = 0 then hp.1 5 (nI k).toNatClampNeg else hp.1 6 (nI k).toNatClampNeg) * 10 + (if s = 0 then hp.1 8 (nI k).toNatClampNeg else hp.1 9 (nI k).toNatClampNeg)).toNatClampNeg (hp.1 15 ((if s = 0 then hp.1 5 (nI k).toNatClampNeg else hp.1 6 (nI k).toNatClampNeg) * 10 + (if s = 0 then hp.1 8 (nI k).toNatClampNeg else hp.1 9 (nI k).toNatClampNeg)).toNatClampNeg ||| bit1 (if 1 - s = 0 then hp.1 5 (nI k).toNatClampNeg else hp.1 6 (nI k).toNatClampNeg)), hp.2) = sR hp 15 (gPart hp s.toNatClampNeg (nI k).toNatClampNeg (hp.1 15))
      rw [hst, hdi, hdo, up_as]
      unfold gPart
      rw [hx, if_neg c12])
