/-! ===== the reference: chain, chains ===== -/
theorem gt0 {a b c : Int32} (h : ¬ (if fGo a b c = 0 then (1 : Int32) else 0) = 0) : fGo a b c = 0 := by
  apply Classical.byContradiction
  intro q
  exact h (if_neg q)
theorem gf0 {a b c : Int32} (h : (if fGo a b c = 0 then (1 : Int32) else 0) = 0) : ¬ fGo a b c = 0 := by
  intro q
  rw [if_pos q] at h
  exact absurd h (by decide)
def labM (hp : mm_Hp) : Nat → Int32 := labF (hp.1 29) (hp.1 26) (hp.1 27) (mszN hp) (hp.1 37)
def gCh (d : Int32) : Int32 := fGo (fId d) 1 1
theorem mdOk_T {hp : mm_Hp} (h : mdOk hp) (v : Int32) : mdOk (setT v hp) := by
  have e : mszN (setT v hp) = mszN hp := by unfold mszN; rw [setT_25 v hp (by omega)]
  refine ⟨?_, ?_⟩
  · rw [setT_25 v hp (by omega)]; exact h.1
  · rw [e, setT_ne v hp (by omega), setT_ne v hp (by omega), setT_ne v hp (by omega)]
    exact h.2
theorem labM_T (v : Int32) (hp : mm_Hp) : labM (setT v hp) = labM hp := by
  unfold labM
  have e : mszN (setT v hp) = mszN hp := by unfold mszN; rw [setT_25 v hp (by omega)]
  rw [e, setT_ne v hp (by omega), setT_ne v hp (by omega), setT_ne v hp (by omega), setT_ne v hp (by omega)]
theorem id_32 {d : Int32} (h : fGo (fId d) 1 1 = 0) : ∃ k, k < 32 ∧ d = nI k := by
  rcases die_code d with ⟨_, a⟩ | ⟨_, a, k⟩
  · rw [a] at h; exact absurd h (by decide)
  · exact k
theorem M_M_chain_g {E : En} (hE : EOk E) (hl : mm_Hp → mm_Hp) (hML : Mt E yM_link cM_link 5 none 1 (ct0 25 0 mdOk (fun _ => 0) (fun _ => 0) hl)) (rv : Int32 → mm_Hp → Int32) (sg : Int32 → mm_Hp → mm_Hp) (r1 : ∀ d hp, fGo (fId d) 1 1 = 0 → rv d hp = (hl (setT 0 hp)).1 37 (cN d)) (r0 : ∀ d hp, ¬ fGo (fId d) 1 1 = 0 → rv d hp = 0) (s1 : ∀ d hp, fGo (fId d) 1 1 = 0 → sg d hp = hl (setT 0 hp)) (s0 : ∀ d hp, ¬ fGo (fId d) 1 1 = 0 → sg d hp = setT (fGo (fId d) 1 1) hp) :
    Mt E yM_chain cM_chain 2 (some .int) 6 (ct1 25 1 (fun _ hp => mdOk hp) (fun _ _ => 0) rv sg) :=
  metS (n := 60) (tab := tM_chain) (cals := [(235, sM_isDie), (206, sM_goes), (240, ct0 25 0 mdOk (fun _ => 0) (fun _ => 0) hl)]) hE flM_ok pfM_ok csM_ok rfl (by decide) kM_chain rfl (cf_s 117 (lM_117 (M_M_isDie hE) (by decide) rfl) (cf_v 103 (lM_103 (M_M_goes hE) (by decide) ct3_t rfl) (cf_v 120 (lM_120 hML (by decide) ct0_t rfl) cf_nil))) (rt_i rfl) ct1_c (Nat.le_of_ble_eq_true rfl) rfl (fun as hp hl2 h => by
    obtain ⟨d, rfl, hP⟩ := ct1_s h
    refine ⟨trivial, fun r2 => ⟨⟨rfl, trivial⟩, fun r7 => ⟨fun c10 => ?_, fun c10 => ?_⟩, fun e7 x7 => no0 x7⟩, fun e2 x2 => no0 x2⟩
    · have c10 : fGo (fId d) 1 1 = 0 := gt0 c10
      obtain ⟨k, hk, ek⟩ := id_32 c10
      have e0 : setT (fGo (fId d) 1 1) hp = setT 0 hp := by rw [c10]
      refine ⟨⟨rfl, mdOk_T hP _⟩, fun r16 => ⟨inx ek hk (by omega), ⟨rfl, ?_, ?_⟩⟩, fun e16 x16 => no0 x16⟩
      · show some ((hl (setT (fGo (fId d) 1 1) hp)).1 37 d.toNatClampNeg) = some (rv d hp)
        rw [e0, r1 d hp c10]
        rfl
      · show hl (setT (fGo (fId d) 1 1) hp) = sg d hp
        rw [e0, s1 d hp c10]
    · have c10 : ¬ fGo (fId d) 1 1 = 0 := gf0 c10
      refine ⟨rfl, ?_, ?_⟩
      · show some (0 : Int32) = some (rv d hp)
        rw [r0 d hp c10]
      · show setT (fGo (fId d) 1 1) hp = sg d hp
        rw [s0 d hp c10])
def rChM (d : Int32) (hp : mm_Hp) : Int32 := if gCh d = 0 then labM hp (cN d) else 0
def hChM (d : Int32) (hp : mm_Hp) : mm_Hp := if gCh d = 0 then hLi (setT 0 hp) else setT (gCh d) hp
theorem hLi_37 (hp : mm_Hp) : (hLi hp).1 37 = labM hp := by
  unfold hLi labM
  rw [sR_at]
theorem hLi_ne (hp : mm_Hp) {c : Nat} (h : c ≠ 37) : (hLi hp).1 c = hp.1 c := by
  unfold hLi
  rw [sR_ne h]
def sM_chain : mm_Ct := ct1 25 1 (fun _ hp => mdOk hp) (fun _ _ => 0) rChM hChM
theorem M_M_chain {E : En} (hE : EOk E) : Mt E yM_chain cM_chain 2 (some .int) 6 sM_chain :=
  M_M_chain_g hE hLi (M_M_link hE) rChM hChM (fun d hp h => by unfold rChM gCh; rw [if_pos h, hLi_37, labM_T]) (fun d hp h => by unfold rChM gCh; rw [if_neg h]) (fun d hp h => by unfold hChM gCh; rw [if_pos h]) (fun d hp h => by unfold hChM gCh; rw [if_neg h])
/-- a sure coin's label is d -/
def bIs (du fr g : Nat → Int32) (d : Nat) (k : Nat) (a : Int32) : Int32 := if a = 0 then (if du k = 0 then (if g (cN (fr k)) = nI d then 1 else 0) else 0) else 1
def isF (du fr g : Nat → Int32) (d n : Nat) : Int32 := lp (bIs du fr g d) n 0
def bCs (du fr g : Nat → Int32) (n d : Nat) (a : Int32) : Int32 := if isF du fr g d n = 0 then a else a + 1
theorem isF_B (du fr g : Nat → Int32) (d : Nat) : ∀ n, isB (isF du fr g d n)
  | 0 => Or.inl rfl
  | n + 1 => by
    show isB (bIs du fr g d n (isF du fr g d n))
    unfold bIs
    split
    · split
      · exact isB_fi
      · exact Or.inl rfl
    · exact Or.inr rfl
theorem cs_m {i k : Nat} (hk : k < 100) : (100 - i) * 1000 + (100 - (k + 1)) < (100 - i) * 1000 + (100 - k) := by omega
def msCs (pc : Nat) (L : mm_Loc) : Nat := cond (Nat.beq pc 13) ((100 - msv 2 L) * 1000 + 500) ((100 - msv 2 L) * 1000 + (100 - msv 4 L))
def iCs (h1 : mm_Hp) (n : Nat) (du fr g : Nat → Int32) (pc : Nat) : Option (mm_Loc → mm_Hp → Prop) :=
  cond (Nat.beq pc 13) (some (fun L hp' => ∃ (i : Nat) (a x : Int32) (o3 o4 : Option Value), L = [some (.ref 25), some (.int a), some (.int x), o3, o4] ∧ x = nI i ∧ i ≤ 32 ∧ a = lp (bCs du fr g n) i 0 ∧ hp' = h1))
  (cond (Nat.beq pc 24) (some (fun L hp' => ∃ (i k : Nat) (a x z y : Int32), L = [some (.ref 25), some (.int a), some (.int x), some (.int z), some (.int y)] ∧ x = nI i ∧ i < 32 ∧ y = nI k ∧ k ≤ n ∧ a = lp (bCs du fr g n) i 0 ∧ z = isF du fr g i k ∧ hp' = h1)) none)
theorem M_M_chains_g {E : En} (hE : EOk E) (hl : mm_Hp → mm_Hp) (hML : Mt E yM_link cM_link 5 none 1 (ct0 25 0 mdOk (fun _ => 0) (fun _ => 0) hl)) (hln : ∀ hp c, c ≠ 37 → (hl hp).1 c = hp.1 c) (g : mm_Hp → Nat → Int32) (hg : ∀ hp, (hl (setT 0 hp)).1 37 = g hp) (rv : mm_Hp → Int32) (sg : mm_Hp → mm_Hp) (r1 : ∀ hp, rv hp = lp (bCs (hp.1 29) (hp.1 26) (g hp) (mszN hp)) 32 0) (s1 : ∀ hp, sg hp = hl (setT 0 hp)) :
    Mt E yM_chains cM_chains 5 (some .int) 6 (ct0 25 1 mdOk (fun _ => 0) rv sg) :=
  met (n := 60) (tab := tM_chains) (cals := [(240, ct0 25 0 mdOk (fun _ => 0) (fun _ => 0) hl)]) hE flM_ok pfM_ok csM_ok rfl (by decide) kM_chains rfl (cf_v 120 (lM_120 hML (by decide) ct0_t rfl) cf_nil) (rt_i rfl) ct0_c (Nat.le_of_ble_eq_true rfl) rfl
    (fun as hp pc => iCs (hl (setT 0 hp)) (mszN hp) (hp.1 29) (hp.1 26) (g hp) pc) (fun pc L _ => msCs pc L)
    (fun as hp hl2 h => by
      obtain ⟨rfl, hP⟩ := ct0_s h
      exact ⟨⟨rfl, mdOk_T hP 0⟩, fun r6 => ⟨rfl, 0, _, _, _, _, rfl, rfl, by omega, rfl, rfl⟩, fun e6 x6 => no0 x6⟩)
    (fun as hp hl2 h pc P hq L hp' hL _ => by
      obtain ⟨rfl, hP⟩ := ct0_s h
      have h80 := mszN_80 hP
      have esz : hp.1 25 1 = nI (mszN hp) := by obtain ⟨n, _, e, e2⟩ := mszE hP.1; rw [e2]; exact e
      have er := r1 hp
      have es := s1 hp
      have eg := hg hp
      have v25 : (hl (setT 0 hp)).1 25 1 = nI (mszN hp) := by rw [hln _ _ (by omega), setT_25 _ _ (by omega)]; exact esz
      have v26 : (hl (setT 0 hp)).1 26 = hp.1 26 := by rw [hln _ _ (by omega), setT_ne _ _ (by omega)]
      have v29 : (hl (setT 0 hp)).1 29 = hp.1 29 := by rw [hln _ _ (by omega), setT_ne _ _ (by omega)]
      generalize hl (setT 0 hp) = h1 at *
      generalize hgg : g hp = lb at *
      unfold iCs at hq
      rcases atc hq with ⟨rfl, rfl⟩ | hq
      · obtain ⟨i, a, x, o3, o4, rfl, ex, hi, ea, rfl⟩ := hL
        refine ⟨fun c16 => ?_, fun c16 => ?_⟩
        · have := cge ex (n := 32) rfl (by omega) (by omega) c16
          have hi2 : i = 32 := by omega
          subst hi2
          refine ⟨rfl, ?_, es.symm⟩
          show some a = some (rv hp)
          rw [er, ea]
        · have hlt := clt ex (n := 32) rfl (by omega) (by omega) c16
          refine ⟨rfl, ⟨i, 0, a, x, 0, 0, rfl, ex, hlt, rfl, by omega, ea, rfl, rfl⟩, ?_⟩
          show (100 - x.toNatClampNeg) * 1000 + (100 - (0 : Int32).toNatClampNeg) < (100 - x.toNatClampNeg) * 1000 + 500
          have e0 : (0 : Int32).toNatClampNeg = 0 := rfl
          rw [e0]; omega
      obtain ⟨rfl, rfl⟩ := at1 hq
      obtain ⟨i, k, a, x, z, y, rfl, ex, hi, ey, hk, ea, ez, rfl⟩ := hL
      have hx := nx ex (by omega)
      have hy := nx ey (by omega)
      have hm : (100 - (x + 1).toNatClampNeg) * 1000 + 500 < (100 - x.toNatClampNeg) * 1000 + (100 - y.toNatClampNeg) := by
        rw [inc1 ex, hx, hy, nIc (by omega)]; omega
      have hm2 : (100 - x.toNatClampNeg) * 1000 + (100 - (y + 1).toNatClampNeg) < (100 - x.toNatClampNeg) * 1000 + (100 - y.toNatClampNeg) := by
        rw [inc1 ey, hx, hy, nIc (by omega)]; exact cs_m (by omega)
      refine ⟨fun c30 => ?_, fun c30 => ?_⟩
      · have c30 : hp'.1 25 1 ≤ y := c30
        rw [v25] at c30
        have := cge ey (n := mszN hp) rfl (by omega) (by omega) c30
        have hk2 : k = mszN hp := by omega
        subst hk2
        refine ⟨fun c76 => ?_, fun c76 => ?_⟩
        · have c76 : z = 0 := c76
          refine ⟨rfl, ⟨i + 1, a, _, _, _, rfl, inc1 ex, by omega, ?_, rfl⟩, hm⟩
          show a = bCs (hp.1 29) (hp.1 26) lb (mszN hp) i (lp (bCs (hp.1 29) (hp.1 26) lb (mszN hp)) i 0)
          unfold bCs
          rw [← ez, if_pos c76]
          exact ea
        · have c76 : ¬ z = 0 := c76
          refine ⟨rfl, ⟨i + 1, a + 1, _, _, _, rfl, inc1 ex, by omega, ?_, rfl⟩, hm⟩
          show a + 1 = bCs (hp.1 29) (hp.1 26) lb (mszN hp) i (lp (bCs (hp.1 29) (hp.1 26) lb (mszN hp)) i 0)
          rw [← ea]
          unfold bCs
          rw [← ez, if_neg c76]
      · have c30 : ¬ hp'.1 25 1 ≤ y := c30
        rw [v25] at c30
        have hlt := clt ey (n := mszN hp) rfl (by omega) (by omega) c30
        obtain ⟨hB, ⟨fr, hfr, efr⟩, _⟩ := hP.2 k hlt
        have i80 : vp_in y 80 := inx ey (by omega) (by omega)
        have w26 : hp'.1 26 y.toNatClampNeg = nI fr := by rw [v26, hy, efr]
        have i26 : vp_in (hp'.1 26 y.toNatClampNeg) 32 := by rw [w26]; exact nIv (by omega) (by omega)
        have w29 : hp'.1 29 y.toNatClampNeg = hp.1 29 k := by rw [v29, hy]
        have hst : isF (hp.1 29) (hp.1 26) lb i (k + 1) = bIs (hp.1 29) (hp.1 26) lb i k z := by rw [ez]; rfl
        refine ⟨fun c34 => ?_, fun c34 => ⟨i80, ⟨fun c44 => ?_, fun c44 => ⟨i80, ⟨i26, ⟨fun c60 => ?_, fun c60 => ?_⟩⟩⟩⟩⟩⟩
        · have c34 : ¬ z = 0 := c34
          refine ⟨rfl, ⟨i, k + 1, a, x, 1, _, rfl, ex, hi, inc1 ey, by omega, ea, ?_, rfl⟩, hm2⟩
          rw [hst]
          unfold bIs
          rw [if_neg c34]
        · have c34 : z = 0 := c34
          have c44 : ¬ hp'.1 29 y.toNatClampNeg = 0 := c44
          rw [w29] at c44
          refine ⟨rfl, ⟨i, k + 1, a, x, 0, _, rfl, ex, hi, inc1 ey, by omega, ea, ?_, rfl⟩, hm2⟩
          rw [hst]
          unfold bIs
          rw [if_pos c34, if_neg c44]
        · have c34 : z = 0 := c34
          have c44 : hp'.1 29 y.toNatClampNeg = 0 := c44
          rw [w29] at c44
          have c60 : ¬ hp'.1 37 (hp'.1 26 y.toNatClampNeg).toNatClampNeg = x := c60
          rw [eg, w26, ex] at c60
          have c60 : ¬ lb (cN (nI fr)) = nI i := c60
          refine ⟨rfl, ⟨i, k + 1, a, x, 0, _, rfl, ex, hi, inc1 ey, by omega, ea, ?_, rfl⟩, hm2⟩
          rw [hst]
          unfold bIs
          rw [if_pos c34, if_pos c44, efr, if_neg c60]
        · have c34 : z = 0 := c34
          have c44 : hp'.1 29 y.toNatClampNeg = 0 := c44
          rw [w29] at c44
          have c60 : hp'.1 37 (hp'.1 26 y.toNatClampNeg).toNatClampNeg = x := c60
          rw [eg, w26, ex] at c60
          refine ⟨rfl, ⟨i, k + 1, a, x, 1, _, rfl, ex, hi, inc1 ey, by omega, ea, ?_, rfl⟩, hm2⟩
          rw [hst]
          unfold bIs
          have c60 : lb (cN (nI fr)) = nI i := c60
          rw [if_pos c34, if_pos c44, efr, if_pos c60])
def rCsM (hp : mm_Hp) : Int32 := lp (bCs (hp.1 29) (hp.1 26) (labM hp) (mszN hp)) 32 0
def hCsM (hp : mm_Hp) : mm_Hp := hLi (setT 0 hp)
def sM_chains : mm_Ct := ct0 25 1 mdOk (fun _ => 0) rCsM hCsM
theorem M_M_chains {E : En} (hE : EOk E) : Mt E yM_chains cM_chains 5 (some .int) 6 sM_chains :=
  M_M_chains_g hE hLi (M_M_link hE) (fun hp c h => hLi_ne hp h) labM (fun hp => by rw [hLi_37, labM_T]) rCsM hCsM (fun hp => rfl) (fun hp => rfl)
