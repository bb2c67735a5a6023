/-! ===== DieGraphs$Precedence: stages, the order built ===== -/
theorem isN0 {s : Int32} (h : isB s) : s.toNatClampNeg = 0 ∨ s.toNatClampNeg = 1 := by rcases h with rfl | rfl; exact Or.inl rfl; exact Or.inr rfl
def bPart (hp : mm_Hp) (k : Nat) (g : Nat → Int32) : Nat → Int32 := if hp.1 11 k = 0 then gPart hp 1 k (gPart hp 0 k g) else g
def fPart (hp : mm_Hp) : Nat → Int32 := lp (bPart hp) (szN hp) (zeroR 320 (hp.1 15))
def sP_gatherPartners : mm_Ct := ct0 3 0 pcOk (fun _ => 0) (fun _ => 0) (fun hp => sR hp 15 (fPart hp))
/-- other rows than the coins' -/
theorem pcOk_sR {hp : mm_Hp} (h : pcOk hp) {c : Nat} (hc : 12 ≤ c) (g : Nat → Int32) : pcOk (sR hp c g) := by
  have e : ∀ k, k < 12 → (sR hp c g).1 k = hp.1 k := fun k hk => sR_ne (by omega)
  unfold pcOk cnOk szOk szN at h ⊢
  rw [e 1 (by omega), e 11 (by omega), e 5 (by omega), e 6 (by omega), e 8 (by omega), e 9 (by omega)]
  exact h
theorem szN_sR (hp : mm_Hp) {c : Nat} (hc : 2 ≤ c) (g : Nat → Int32) : szN (sR hp c g) = szN hp := by
  unfold szN
  rw [sR_ne (by omega)]
theorem gPart_sR (hp : mm_Hp) {c : Nat} (hc : 12 ≤ c) (f : Nat → Int32) (s k : Nat) (g : Nat → Int32) : gPart (sR hp c f) s k g = gPart hp s k g := by
  have e : ∀ k, k < 12 → (sR hp c f).1 k = hp.1 k := fun k hk => sR_ne (by omega)
  unfold gPart dieS stgS
  rw [e 5 (by omega), e 6 (by omega), e 8 (by omega), e 9 (by omega)]
theorem M_P_gatherPartners {E : En} (hE : EOk E) : Mt E yP_gatherPartners cP_gatherPartners 2 none 3 sP_gatherPartners :=
  met (n := 60) (tab := tP_gatherPartners) (cals := [(142, sC_size), (154, sC_isDoubted), (162, sP_gatherPartner)]) hE flP_ok pfP_ok csP_ok rfl (by decide) kP_gatherPartners rfl
    (cf_v 71 (lP_71 (M_C_size hE) (by decide) ct0_t rfl) (cf_v 77 (lP_77 (M_C_isDoubted hE) (by decide) ct1_t rfl) (cf_v 81 (lP_81 (M_P_gatherPartner hE) (by decide) ct2_t rfl) cf_nil))) (rt_v rfl) ct0_c (by decide) rfl
    (fun as hp pc => cond (Nat.beq pc 2) (some (fun L hp' => ∃ (i : Nat) (x : Int32) (g : Nat → Int32), L = [some (.ref 3), some (.int x)] ∧ x = nI i ∧ i ≤ 320 ∧ hp' = sR hp 15 g ∧ g = zeroR i (hp.1 15)))
      (cond (Nat.beq pc 26) (some (fun L hp' => ∃ (i : Nat) (x : Int32) (g : Nat → Int32), L = [some (.ref 3), some (.int x)] ∧ x = nI i ∧ i ≤ szN hp ∧ hp' = sR hp 15 g ∧ g = lp (bPart hp) i (zeroR 320 (hp.1 15)))) none))
    (fun pc L _ => cond (Nat.beq pc 2) (400 + msk 400 1 L) (msk 100 1 L))
    (fun as hp hl h => by
      obtain ⟨rfl, hP⟩ := ct0_s h
      exact ⟨rfl, 0, _, hp.1 15, rfl, rfl, by omega, (sR_self hp 15).symm, rfl⟩)
    (fun as hp hl h pc P hq L hp' hL _ => by
      obtain ⟨rfl, hP⟩ := ct0_s h
      rcases at2 hq with ⟨rfl, rfl⟩ | ⟨rfl, rfl⟩
      · obtain ⟨i, x, g, rfl, ex, hi, rfl, eg⟩ := hL
        refine ⟨fun c8 => ⟨rfl, ⟨0, 0, g, rfl, rfl, Nat.zero_le _, rfl, ?_⟩, ?_⟩, fun c8 => ?_⟩
        · have := cge ex (n := 320) rfl (by omega) (by omega) c8
          have hi2 : i = 320 := by omega
          subst hi2
          rw [eg]
          rfl
        · show 100 - (0 : Int32).toNatClampNeg < 400 + (400 - x.toNatClampNeg)
          rw [show (0 : Int32).toNatClampNeg = 0 from rfl]
          omega
        · have hlt := clt ex (n := 320) rfl (by omega) (by omega) c8
          have hx := nx ex (by omega)
          refine ⟨inx ex hlt (by omega), ⟨rfl, ⟨i + 1, _, upd g i 0, rfl, inc1 ex, by omega, ?_, ?_⟩, ?_⟩⟩
          · show (mm_up (sR hp 15 g).1 15 x.toNatClampNeg 0, (sR hp 15 g).2) = _
            rw [up_sR, hx]
          · rw [eg]; rfl
          · have := dec1 ex (N := 400) (by omega) (by omega)
            show 400 + (400 - (x + 1).toNatClampNeg) < 400 + (400 - x.toNatClampNeg)
            omega
      · obtain ⟨i, x, g, rfl, ex, hi, rfl, eg⟩ := hL
        obtain ⟨n, hn, hs, hsz⟩ := szE hP.1.1
        rw [hsz] at hi
        refine ⟨⟨rfl, trivial⟩, fun r31 => ⟨fun c34 => ⟨rfl, rfl, ?_⟩, fun c34 => ?_⟩, fun e31 x31 => no0 x31⟩
        · have := cge ex hs (by omega) (by omega) c34
          have hi2 : i = n := by omega
          subst hi2
          show sR hp 15 g = sR hp 15 (fPart hp)
          rw [eg]
          unfold fPart
          rw [hsz]
        · have hlt := clt ex hs (by omega) (by omega) c34
          have hin : vp_in x 80 := inx ex (by omega) (by omega)
          have hx := nx ex (by omega)
          have hB := (hP.1.2 i (by omega)).1
          have hstep : lp (bPart hp) (i + 1) (zeroR 320 (hp.1 15)) = bPart hp i g := by rw [eg]; rfl
          refine ⟨⟨rfl, hin, ?_⟩, fun r42 => ⟨fun c45 => ⟨rfl, ⟨i + 1, _, g, rfl, inc1 ex, by omega, rfl, ?_⟩, dec1 ex (by omega) (by omega)⟩, fun c45 => ⟨⟨rfl, pcOk_sR hP (by omega) g, i, ?_, ex, Or.inl rfl⟩, fun r51 => ⟨⟨rfl, pcOk_sR (pcOk_sR hP (by omega) g) (by omega) _, i, ?_, ex, Or.inr rfl⟩, fun r57 => ⟨rfl, ⟨i + 1, _, bPart hp i g, rfl, inc1 ex, by omega, ?_, hstep.symm⟩, dec1 ex (by omega) (by omega)⟩, fun e57 x57 => no0 x57⟩, fun e51 x51 => no0 x51⟩⟩, fun e42 x42 => no0 x42⟩
          · show isB (hp.1 11 x.toNatClampNeg)
            rw [hx]; exact hB
          · have c45 : ¬ hp.1 11 x.toNatClampNeg = 0 := c45
            rw [hx] at c45
            rw [hstep]
            unfold bPart
            rw [if_neg c45]
          · show i < szN (sR hp 15 g)
            rw [szN_sR _ (by omega)]; omega
          · show i < szN (sR (sR hp 15 g) 15 _)
            rw [szN_sR _ (by omega), szN_sR _ (by omega)]; omega
          · have c45 : hp.1 11 x.toNatClampNeg = 0 := c45
            rw [hx] at c45
            show sR (sR (sR hp 15 g) 15 (gPart (sR hp 15 g) 0 x.toNatClampNeg g)) 15 (gPart (sR (sR hp 15 g) 15 (gPart (sR hp 15 g) 0 x.toNatClampNeg g)) 1 x.toNatClampNeg (gPart (sR hp 15 g) 0 x.toNatClampNeg g)) = _
            simp only [gPart_sR _ (show 12 ≤ 15 by omega)]
            rw [sR_sR, sR_sR, hx]
            unfold bPart
            rw [if_pos c45])
def fBehind (g : Nat → Int32) (d t : Nat) : Int32 := lp (fun j a => a ||| g (d * 10 + (t + 1 + j))) (9 - t) 0
def sP_partnersBehind : mm_Ct := ct2 3 1 (fun d t _ => (∃ n, n < 32 ∧ d = nI n) ∧ ∃ n, n < 10 ∧ t = nI n) (fun _ _ _ => 0) (fun d t hp => fBehind (hp.1 15) d.toNatClampNeg t.toNatClampNeg) (fun _ _ hp => hp)
theorem M_P_partnersBehind {E : En} (hE : EOk E) : Mt E yP_partnersBehind cP_partnersBehind 5 (some .int) 1 sP_partnersBehind :=
  met (n := 60) (tab := tP_partnersBehind) (cals := []) hE flP_ok pfP_ok csP_ok rfl (by decide) kP_partnersBehind rfl cf_nil (rt_i rfl) ct2_c (by decide) rfl
    (fun as hp pc => cond (Nat.beq pc 7) (some (fun L hp' => hp' = hp ∧ ∃ (d t i : Nat) (x a : Int32), as = [.ref 3, .int (nI d), .int (nI t)] ∧ d < 32 ∧ t < 10 ∧ L = [some (.ref 3), some (.int (nI d)), some (.int (nI t)), some (.int a), some (.int x)] ∧ x = nI (t + 1 + i) ∧ i ≤ 9 - t ∧ a = lp (fun j a => a ||| hp.1 15 (d * 10 + (t + 1 + j))) i 0)) none) (fun _ L _ => msk 100 4 L)
    (fun as hp hl h => by
      obtain ⟨d9, t9, rfl, ⟨d, hd, rfl⟩, t, ht, rfl⟩ := ct2_s h
      exact ⟨rfl, rfl, d, t, 0, _, _, rfl, hd, ht, rfl, nI_1 t, by omega, rfl⟩)
    (fun as hp hl h pc P hq L hp' hL _ => by
      obtain ⟨rfl, rfl⟩ := at1 hq
      obtain ⟨rfl, d, t, i, x, a, rfl, hd, ht, rfl, ex, hi, ea⟩ := hL
      refine ⟨fun c11 => ⟨rfl, ?_, rfl⟩, fun c11 => ?_⟩
      · have := cge ex (n := 10) rfl (by omega) (by omega) c11
        have hi2 : i = 9 - t := by omega
        subst hi2
        show some a = some (fBehind (hp'.1 15) (nI d).toNatClampNeg (nI t).toNatClampNeg)
        rw [ea, nIc (by omega), nIc (by omega)]
        rfl
      · have hlt := clt ex (n := 10) rfl (by omega) (by omega) c11
        have hidx : nI d * 10 + x = nI (d * 10 + (t + 1 + i)) := by rw [ex]; exact ix320 hd hlt
        refine ⟨?_, ⟨rfl, ⟨rfl, d, t, i + 1, _, _, rfl, hd, ht, rfl, inc1 ex, by omega, ?_⟩, dec1 ex (by omega) (by omega)⟩⟩
        · show vp_in (nI d * 10 + x) 320
          rw [hidx]; exact nIv (by omega) (by omega)
        · show a ||| hp'.1 15 (nI d * 10 + x).toNatClampNeg = _
          rw [hidx, nIc (by omega), ea]
          rfl)
def bStg (hp : mm_Hp) (s k : Nat) (g : Nat → Int32) : Nat → Int32 := if hp.1 11 k = 0 then (if stgS hp s k = -1 then g else upd g (dieS hp (1 - s) k).toNatClampNeg (g (dieS hp (1 - s) k).toNatClampNeg ||| (fBehind (hp.1 15) (dieS hp s k).toNatClampNeg (stgS hp s k).toNatClampNeg &&& (bit1 (dieS hp (1 - s) k) ^^^ (-1))))) else g
def fStg (hp : mm_Hp) (s : Nat) : Nat → Int32 := lp (bStg hp s) (szN hp) (hp.1 16)
def sP_addStagesToNext : mm_Ct := ct1 3 0 (fun s hp => pcOk hp ∧ isB s) (fun _ _ => 0) (fun _ _ => 0) (fun s hp => sR hp 16 (fStg hp s.toNatClampNeg))
theorem M_P_addStagesToNext {E : En} (hE : EOk E) : Mt E yP_addStagesToNext cP_addStagesToNext 5 none 2 sP_addStagesToNext :=
  met (n := 80) (tab := tP_addStagesToNext) (cals := [(142, sC_size), (170, sC_stageOf), (154, sC_isDoubted), (178, sC_dieOf), (184, sP_partnersBehind)]) hE flP_ok pfP_ok csP_ok rfl (by decide) kP_addStagesToNext rfl
    (cf_v 71 (lP_71 (M_C_size hE) (by decide) ct0_t rfl) (cf_v 85 (lP_85 (M_C_stageOf hE) (by decide) ct2_t rfl) (cf_v 77 (lP_77 (M_C_isDoubted hE) (by decide) ct1_t rfl) (cf_v 89 (lP_89 (M_C_dieOf hE) (by decide) ct2_t rfl) (cf_v 92 (lP_92 (M_P_partnersBehind hE) (by decide) ct2_t rfl) cf_nil))))) (rt_v rfl) ct1_c (by decide) rfl
    (fun as hp pc => cond (Nat.beq pc 2) (some (fun L hp' => ∃ (s : Int32) (i : Nat) (x : Int32) (g : Nat → Int32) (o1 o2 : Option Value), as = [.ref 3, .int s] ∧ L = [some (.ref 3), some (.int s), some (.int x), o1, o2] ∧ x = nI i ∧ i ≤ szN hp ∧ hp' = sR hp 16 g ∧ g = lp (bStg hp s.toNatClampNeg) i (hp.1 16))) none)
    (fun _ L _ => msk 100 2 L)
    (fun as hp hl h => by
      obtain ⟨s, rfl, hP⟩ := ct1_s h
      exact ⟨rfl, s, 0, _, hp.1 16, none, none, rfl, rfl, rfl, by omega, (sR_self hp 16).symm, rfl⟩)
    (fun as hp hl h pc P hq L hp' hL _ => by
      obtain ⟨s, rfl, hP, hs⟩ := ct1_s h
      obtain ⟨rfl, rfl⟩ := at1 hq
      obtain ⟨s', i, x, g, o1, o2, heq, rfl, ex, hi, rfl, eg⟩ := hL
      cases heq
      obtain ⟨n, hn, hs1, hsz⟩ := szE hP.1.1
      rw [hsz] at hi
      refine ⟨⟨rfl, trivial⟩, fun r7 => ⟨fun c10 => ⟨rfl, rfl, ?_⟩, fun c10 => ?_⟩, fun e7 x7 => no0 x7⟩
      · have := cge ex hs1 (by omega) (by omega) c10
        have hi2 : i = n := by omega
        subst hi2
        show sR hp 16 g = sR hp 16 (fStg hp s.toNatClampNeg)
        rw [eg]
        unfold fStg
        rw [hsz]
      · have hlt := clt ex hs1 (by omega) (by omega) c10
        have hk : i < szN hp := by omega
        have hin : vp_in x 80 := inx ex (by omega) (by omega)
        have hx := nx ex (by omega)
        have hB := (hP.1.2 i hk).1
        have hstep : lp (bStg hp s.toNatClampNeg) (i + 1) (hp.1 16) = bStg hp s.toNatClampNeg i g := by rw [eg]; rfl
        have hst : (if s = 0 then hp.1 8 x.toNatClampNeg else hp.1 9 x.toNatClampNeg) = stgS hp s.toNatClampNeg i := by
          rw [hx]; rcases hs with rfl | rfl <;> rfl
        have hdi : (if s = 0 then hp.1 5 x.toNatClampNeg else hp.1 6 x.toNatClampNeg) = dieS hp s.toNatClampNeg i := by
          rw [hx]; rcases hs with rfl | rfl <;> rfl
        have hdo : (if 1 - s = 0 then hp.1 5 x.toNatClampNeg else hp.1 6 x.toNatClampNeg) = dieS hp (1 - s.toNatClampNeg) i := by
          rw [hx]; rcases hs with rfl | rfl <;> rfl
        obtain ⟨od, hod, eod⟩ := hP.die hk (1 - s.toNatClampNeg)
        obtain ⟨dd, hdd, edd⟩ := hP.die hk s.toNatClampNeg
        have ho9 : vp_in (if 1 - s = 0 then hp.1 5 x.toNatClampNeg else hp.1 6 x.toNatClampNeg) 32 := by rw [hdo, eod]; exact nIv hod (by omega)
        refine ⟨⟨rfl, hin⟩, fun r19 => ⟨⟨rfl, hin, ?_⟩, fun r28 => ⟨fun c31 => ⟨rfl, ⟨s, i + 1, _, g, _, o2, rfl, rfl, inc1 ex, by omega, rfl, ?_⟩, dec1 ex (by omega) (by omega)⟩, fun c31 => ⟨fun c36 => ⟨rfl, ⟨s, i + 1, _, g, _, o2, rfl, rfl, inc1 ex, by omega, rfl, ?_⟩, dec1 ex (by omega) (by omega)⟩, fun c36 => ⟨⟨rfl, hin⟩, fun r47 => ⟨ho9, ⟨⟨rfl, hin⟩, fun r67 => ⟨⟨rfl, ⟨dd, hdd, ?_⟩, ?_⟩, fun r71 => ⟨ho9, ⟨rfl, ⟨s, i + 1, _, bStg hp s.toNatClampNeg i g, _, _, rfl, rfl, inc1 ex, by omega, ?_, hstep.symm⟩, dec1 ex (by omega) (by omega)⟩⟩, fun e71 x71 => no0 x71⟩, fun e67 x67 => no0 x67⟩⟩, fun e47 x47 => no0 x47⟩⟩⟩, fun e28 x28 => no0 x28⟩, fun e19 x19 => no0 x19⟩
        · show isB (hp.1 11 x.toNatClampNeg)
          rw [hx]; exact hB
        · have c31 : ¬ hp.1 11 x.toNatClampNeg = 0 := c31
          rw [hx] at c31
          rw [hstep]
          unfold bStg
          rw [if_neg c31]
        · have c31 : hp.1 11 x.toNatClampNeg = 0 := c31
          have c36 : (if s = 0 then hp.1 8 x.toNatClampNeg else hp.1 9 x.toNatClampNeg) = -1 := c36
          rw [hx] at c31
          rw [hst] at c36
          rw [hstep]
          unfold bStg
          rw [if_pos c31, if_pos c36]
        · show (if s = 0 then hp.1 5 x.toNatClampNeg else hp.1 6 x.toNatClampNeg) = nI dd
          rw [hdi]; exact edd
        · have c36 : ¬ (if s = 0 then hp.1 8 x.toNatClampNeg else hp.1 9 x.toNatClampNeg) = -1 := c36
          show ∃ n, n < 10 ∧ (if s = 0 then hp.1 8 x.toNatClampNeg else hp.1 9 x.toNatClampNeg) = nI n
          rw [hst] at c36 ⊢
          exact (hP.stg hk s.toNatClampNeg).resolve_left c36
        · have c31 : hp.1 11 x.toNatClampNeg = 0 := c31
          have c36 : ¬ (if s = 0 then hp.1 8 x.toNatClampNeg else hp.1 9 x.toNatClampNeg) = -1 := c36
          rw [hx] at c31
          rw [hst] at c36
          show (mm_up (sR hp 16 g).1 16 (if 1 - s = 0 then hp.1 5 x.toNatClampNeg else hp.1 6 x.toNatClampNeg).toNatClampNeg (g (if 1 - s = 0 then hp.1 5 x.toNatClampNeg else hp.1 6 x.toNatClampNeg).toNatClampNeg ||| (fBehind (hp.1 15) (if s = 0 then hp.1 5 x.toNatClampNeg else hp.1 6 x.toNatClampNeg).toNatClampNeg (if s = 0 then hp.1 8 x.toNatClampNeg else hp.1 9 x.toNatClampNeg).toNatClampNeg &&& (bit1 (if 1 - s = 0 then hp.1 5 x.toNatClampNeg else hp.1 6 x.toNatClampNeg) ^^^ (-1)))), (sR hp 16 g).2) = _
          rw [hst, hdi, hdo, up_sR]
          unfold bStg
          rw [if_pos c31, if_neg c36])
def bClose (m k : Nat) (g : Nat → Int32) : Nat → Int32 := if bitAt (g k) (nI m) = 0 then g else upd g k (g k ||| g m)
def fCopy (f : Nat → Int32) (n : Nat) (g : Nat → Int32) : Nat → Int32 := lp (fun k g => upd g k (f k)) n g
def fClose (hp : mm_Hp) : Nat → Int32 := lp (fun m g => lp (bClose m) 32 g) 32 (fCopy (hp.1 16) 32 (hp.1 17))
def sP_closeLater : mm_Ct := ct0 3 0 (fun _ => True) (fun _ => 0) (fun _ => 0) (fun hp => sR hp 17 (fClose hp))
theorem M_P_closeLater {E : En} (hE : EOk E) : Mt E yP_closeLater cP_closeLater 3 none 2 sP_closeLater :=
  met (n := 60) (tab := tP_closeLater) (cals := [(89, sG_contains)]) hE flP_ok pfP_ok csP_ok rfl (by decide) kP_closeLater rfl (cf_s 44 (lP_c hE (by decide)) cf_nil) (rt_v rfl) ct0_c (by decide) rfl
    (fun as hp pc => cond (Nat.beq pc 2) (some (fun L hp' => ∃ (i : Nat) (x : Int32) (g : Nat → Int32) (o : Option Value), L = [some (.ref 3), some (.int x), o] ∧ x = nI i ∧ i ≤ 32 ∧ hp' = sR hp 17 g ∧ g = fCopy (hp.1 16) i (hp.1 17)))
      (cond (Nat.beq pc 28) (some (fun L hp' => ∃ (i : Nat) (x : Int32) (g : Nat → Int32) (o : Option Value), L = [some (.ref 3), some (.int x), o] ∧ x = nI i ∧ i ≤ 32 ∧ hp' = sR hp 17 g ∧ g = lp (fun m g => lp (bClose m) 32 g) i (fCopy (hp.1 16) 32 (hp.1 17))))
      (cond (Nat.beq pc 36) (some (fun L hp' => ∃ (i : Nat) (x : Int32) (j : Nat) (y : Int32) (g : Nat → Int32), L = [some (.ref 3), some (.int x), some (.int y)] ∧ x = nI i ∧ i < 32 ∧ y = nI j ∧ j ≤ 32 ∧ hp' = sR hp 17 g ∧ g = lp (bClose i) j (lp (fun m g => lp (bClose m) 32 g) i (fCopy (hp.1 16) 32 (hp.1 17))))) none)))
    (fun pc L _ => cond (Nat.beq pc 2) (100000 + msk 100 1 L) (cond (Nat.beq pc 28) (100 * msk 100 1 L) (100 * msk 100 1 L - 99 + msk 40 2 L)))
    (fun as hp hl h => by
      obtain ⟨rfl, hP⟩ := ct0_s h
      exact ⟨rfl, 0, _, hp.1 17, none, rfl, rfl, by omega, (sR_self hp 17).symm, rfl⟩)
    (fun as hp hl h pc P hq L hp' hL _ => by
      obtain ⟨rfl, hP⟩ := ct0_s h
      rcases at3 hq with ⟨rfl, rfl⟩ | ⟨rfl, rfl⟩ | ⟨rfl, rfl⟩
      · obtain ⟨i, x, g, o, rfl, ex, hi, rfl, eg⟩ := hL
        refine ⟨fun c5 => ⟨rfl, ⟨0, 0, g, o, rfl, rfl, by omega, rfl, ?_⟩, ?_⟩, fun c5 => ?_⟩
        · have := cge ex (n := 32) rfl (by omega) (by omega) c5
          have hi2 : i = 32 := by omega
          subst hi2
          rw [eg]
          rfl
        · show 100 * (100 - (0 : Int32).toNatClampNeg) < 100000 + (100 - x.toNatClampNeg)
          rw [show (0 : Int32).toNatClampNeg = 0 from rfl]
          omega
        · have hlt := clt ex (n := 32) rfl (by omega) (by omega) c5
          have hx := nx ex (by omega)
          have hin := inx ex hlt (by omega)
          refine ⟨hin, hin, ⟨rfl, ⟨i + 1, _, upd g i (hp.1 16 i), o, rfl, inc1 ex, by omega, ?_, ?_⟩, ?_⟩⟩
          · show (mm_up (sR hp 17 g).1 17 x.toNatClampNeg (hp.1 16 x.toNatClampNeg), (sR hp 17 g).2) = _
            rw [up_sR, hx]
          · rw [eg]; rfl
          · have := dec1 ex (N := 100) (by omega) (by omega)
            show 100000 + (100 - (x + 1).toNatClampNeg) < 100000 + (100 - x.toNatClampNeg)
            omega
      · obtain ⟨i, x, g, o, rfl, ex, hi, rfl, eg⟩ := hL
        have hx := nx ex (by omega)
        refine ⟨fun c31 => ⟨rfl, rfl, ?_⟩, fun c31 => ⟨rfl, ⟨i, x, 0, 0, g, rfl, ex, ?_, rfl, by omega, rfl, eg⟩, ?_⟩⟩
        · have := cge ex (n := 32) rfl (by omega) (by omega) c31
          have hi2 : i = 32 := by omega
          subst hi2
          show sR hp 17 g = sR hp 17 (fClose hp)
          rw [eg]
          rfl
        · exact clt ex (n := 32) rfl (by omega) (by omega) c31
        · have := clt ex (n := 32) rfl (by omega) (by omega) c31
          show 100 * (100 - x.toNatClampNeg) - 99 + (40 - (0 : Int32).toNatClampNeg) < 100 * (100 - x.toNatClampNeg)
          rw [show (0 : Int32).toNatClampNeg = 0 from rfl, hx]
          omega
      · obtain ⟨i, x, j, y, g, rfl, ex, hi, ey, hj, rfl, eg⟩ := hL
        have hx := nx ex (by omega)
        refine ⟨fun c39 => ⟨rfl, ⟨i + 1, _, g, _, rfl, inc1 ex, by omega, rfl, ?_⟩, ?_⟩, fun c39 => ?_⟩
        · have := cge ey (n := 32) rfl (by omega) (by omega) c39
          have hj2 : j = 32 := by omega
          subst hj2
          rw [eg]
          rfl
        · show 100 * (100 - (x + 1).toNatClampNeg) < 100 * (100 - x.toNatClampNeg) - 99 + (40 - y.toNatClampNeg)
          rw [inc1 ex, nIc (by omega), hx, nx ey (by omega)]
          omega
        · have hlt := clt ey (n := 32) rfl (by omega) (by omega) c39
          have hy := nx ey (by omega)
          have hin := inx ey hlt (by omega)
          have hix := inx ex hi (by omega)
          have hstep : lp (bClose i) (j + 1) (lp (fun m g => lp (bClose m) 32 g) i (fCopy (hp.1 16) 32 (hp.1 17))) = bClose i j g := by rw [eg]; rfl
          have hdec := dec1 ey (N := 40) (by omega) (by omega)
          refine ⟨hin, ⟨trivial, fun r49 => ⟨fun c52 => ⟨rfl, ⟨i, x, j + 1, _, g, rfl, ex, hi, inc1 ey, by omega, rfl, ?_⟩, ?_⟩, fun c52 => ⟨hin, ⟨hix, ⟨hin, ⟨rfl, ⟨i, x, j + 1, _, bClose i j g, rfl, ex, hi, inc1 ey, by omega, ?_, hstep.symm⟩, ?_⟩⟩⟩⟩⟩, fun e49 x49 => no0 x49⟩⟩
          · have c52 : (if bitAt (g y.toNatClampNeg) x = 0 then (0 : Int32) else 1) = 0 := c52
            rw [hy, ex] at c52
            rw [hstep]
            unfold bClose
            split
            · rfl
            · rename_i hq9; rw [if_neg hq9] at c52; exact absurd c52 (by decide)
          · show 100 * (100 - x.toNatClampNeg) - 99 + (40 - (y + 1).toNatClampNeg) < 100 * (100 - x.toNatClampNeg) - 99 + (40 - y.toNatClampNeg)
            omega
          · have c52 : ¬ (if bitAt (g y.toNatClampNeg) x = 0 then (0 : Int32) else 1) = 0 := c52
            rw [hy, ex] at c52
            show (mm_up (sR hp 17 g).1 17 y.toNatClampNeg (g y.toNatClampNeg ||| g x.toNatClampNeg), (sR hp 17 g).2) = _
            rw [up_sR, hy, hx]
            unfold bClose
            split
            · rename_i hq9; rw [if_pos hq9] at c52; exact absurd rfl c52
            · rfl
          · show 100 * (100 - x.toNatClampNeg) - 99 + (40 - (y + 1).toNatClampNeg) < 100 * (100 - x.toNatClampNeg) - 99 + (40 - y.toNatClampNeg)
            omega)
