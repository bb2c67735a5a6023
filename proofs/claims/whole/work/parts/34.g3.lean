/-! ===== DieGraphs: chains, dies, mean, linked, unit, type, count, overlap ===== -/
def bChs (q : Int32 × (Nat → Int32)) (k : Nat) (a : Int32) : Int32 := if q.2 k = nI k then (if bitAt q.1 (nI k) = 0 then a else a + 1) else a
def fChs (q : Int32 × (Nat → Int32)) : Int32 := lp (bChs q) 32 0
theorem M_G_chains_g {E : En} (hE : EOk E) (hb : mm_Hp → mm_Hp) (hMB : Mt E yH_build cH_build 4 none 3 (ct0 2 0 cnOk (fun _ => 0) (fun _ => 0) hb)) (rv : mm_Hp → Int32) (fq : mm_Hp → Int32 × (Nat → Int32)) (hrv : ∀ hp, rv hp = lp (bChs (fq hp)) 32 0) (h12 : ∀ hp, (hb hp).1 12 = (fq hp).2) (h2 : ∀ hp, (hb hp).1 2 2 = (fq hp).1) :
    Mt E yG_chains cG_chains 3 (some .int) 9 (ct0 0 1 cnOk (fun _ => 0) rv hb) :=
  metG (n := 60) (tab := tG_chains) (cals := [(264, ct0 2 0 cnOk (fun _ => 0) (fun _ => 0) hb), (266, sH_leastDieWith), (272, sH_hasCoins)]) hE rfl (by decide) (by decide) kG_chains rfl (cf_v 132 (lG_132 hMB (by decide) ct0_t rfl) (cf_v 133 (lG_133 (M_H_leastDieWith hE) (by decide) ct1_t rfl) (cf_v 136 (lG_136 (M_H_hasCoins hE) (by decide) ct1_t rfl) cf_nil))) (rt_i rfl) ct0_c (Nat.le_of_ble_eq_true rfl) rfl
    (fun as hp pc => cond (Nat.beq pc 11) (some (fun L hp' => hp' = hb hp ∧ ∃ (i : Nat) (x a : Int32), L = [some (.ref 0), some (.int a), some (.int x)] ∧ x = nI i ∧ i ≤ 32 ∧ a = lp (bChs (fq hp)) i 0)) none) (fun _ L _ => msk 100 2 L)
    (fun as hp hl h => by
      obtain ⟨rfl, hP⟩ := ct0_s h
      exact ⟨⟨rfl, hP⟩, fun r4 => ⟨rfl, rfl, 0, _, _, rfl, rfl, by omega, rfl⟩, fun e4 x4 => no0 x4⟩)
    (fun as hp hl h pc P hq L hp' hL _ => by
      obtain ⟨rfl, hP⟩ := ct0_s h
      obtain ⟨rfl, rfl⟩ := at1 hq
      obtain ⟨rfl, i, x, a, rfl, ex, hi, ea⟩ := hL
      refine ⟨fun c14 => ⟨rfl, ?_, rfl⟩, fun c14 => ?_⟩
      · have := cge ex (n := 32) rfl (by omega) (by omega) c14
        have hi2 : i = 32 := by omega
        subst hi2
        exact congrArg some (ea.trans (hrv hp).symm)
      · have hlt := clt ex (n := 32) rfl (by omega) (by omega) c14
        have hin : vp_in x 32 := inx ex (by omega) (by omega)
        have hx := nx ex (by omega)
        have hstep : lp (bChs (fq hp)) (i + 1) 0 = bChs (fq hp) i a := by rw [ea]; rfl
        refine ⟨⟨rfl, hin⟩, fun r22 => ⟨fun c26 => ?_, fun c26 => ⟨⟨rfl, trivial⟩, fun r34 => ⟨fun c37 => ?_, fun c37 => ?_⟩, fun e34 x34 => no0 x34⟩⟩, fun e22 x22 => no0 x22⟩
        · have c26 : ¬ (hb hp).1 12 x.toNatClampNeg = x := c26
          rw [hx, h12, ex] at c26
          refine ⟨rfl, ⟨rfl, i + 1, _, _, rfl, inc1 ex, by omega, ?_⟩, dec1 ex (by omega) (by omega)⟩
          rw [hstep]; unfold bChs; rw [if_neg c26]
        · have c26 : (hb hp).1 12 x.toNatClampNeg = x := c26
          have c37 : (if bitAt ((hb hp).1 2 2) x = 0 then (0 : Int32) else 1) = 0 := c37
          rw [hx, h12, ex] at c26
          rw [h2, ex] at c37
          refine ⟨rfl, ⟨rfl, i + 1, _, _, rfl, inc1 ex, by omega, ?_⟩, dec1 ex (by omega) (by omega)⟩
          rw [hstep]; unfold bChs; rw [if_pos c26]
          split
          · rfl
          · rename_i q; rw [if_neg q] at c37; exact absurd c37 (by decide)
        · have c26 : (hb hp).1 12 x.toNatClampNeg = x := c26
          have c37 : ¬ (if bitAt ((hb hp).1 2 2) x = 0 then (0 : Int32) else 1) = 0 := c37
          rw [hx, h12, ex] at c26
          rw [h2, ex] at c37
          refine ⟨rfl, ⟨rfl, i + 1, _, _, rfl, inc1 ex, by omega, ?_⟩, dec1 ex (by omega) (by omega)⟩
          show a + 1 = _
          rw [hstep]; unfold bChs; rw [if_pos c26]
          split
          · rename_i q; rw [if_pos q] at c37; exact absurd rfl c37
          · rfl)
theorem hBuild_12 (hp : mm_Hp) : (hBuild hp).1 12 = (fBuild hp).2 := sR_at _ _ _
theorem hBuild_2 (hp : mm_Hp) : (hBuild hp).1 2 2 = (fBuild hp).1 := by
  unfold hBuild
  rw [sR_ne (by omega), sR_at]
  simp [upd]
def sG_chains : mm_Ct := ct0 0 1 cnOk (fun _ => 0) (fun hp => fChs (fBuild hp)) hBuild
theorem M_G_chains {E : En} (hE : EOk E) : Mt E yG_chains cG_chains 3 (some .int) 9 sG_chains :=
  M_G_chains_g hE hBuild (M_H_build hE) (fun hp => fChs (fBuild hp)) fBuild (fun _ => rfl) hBuild_12 hBuild_2
def xDs (s p : Int32) : Nat := if xSide s = 0 then xSide p else xSide s
def ownC (hp : mm_Hp) (s die : Int32) : Int32 := lp (bC_with hp die s) (szN hp) 0
def bDs (f : Int32 → Int32) (b k : Nat) (q : Int32 × Int32 × Int32) : Int32 × Int32 × Int32 := (q.1 + f (nI (16 * b + k)), q.2.1 + (if f (nI (16 * b + k)) ≤ 0 then 0 else 1), q.2.2 + (if f (nI (16 * b + k)) = 1 then 1 else 0))
def eDs (p : Int32) (q : Int32 × Int32 × Int32) : Int32 := if q.1 = 0 then fLess 0 1 p else fLess (q.2.1 * q.1) (q.1 - q.2.2) p
theorem xSide0 {s : Int32} (h : xSide s = 0) : isB s := by
  unfold xSide at h
  split at h
  · assumption
  · cases h
theorem M_G_dies_g {E : En} (hE : EOk E) (oc : mm_Hp → Int32 → Int32 → Int32) (hMC : Mt E yC_sureCoinsWith cC_sureCoinsWith 5 (some .int) 2 (ct2 1 1 (fun _ _ hp => szOk hp) (fun _ _ _ => 0) (fun die s hp => oc hp s die) (fun _ _ hp => hp))) (fl : Int32 → Int32 → Int32 → Int32) (hML : Mt E yG_lessened cG_lessened 5 (some .int) 2 (cs3 1 (fun _ _ _ _ => True) (fun _ _ _ _ => 0) (fun a b p _ => fl a b p)))
    (rv : Int32 → Int32 → mm_Hp → Int32) (hrv : ∀ s b p hp q, b < 2 → s = nI b → lp (bDs (oc hp s) b) 16 (0, 0, 0) = q → (q.1 = 0 → rv s p hp = fl 0 1 p) ∧ (¬ q.1 = 0 → rv s p hp = fl (q.2.1 * q.1) (q.1 - q.2.2) p)) :
    Mt E yG_dies cG_dies 8 (some .int) 9 (ct2 0 1 (fun _ _ hp => szOk hp) (fun s p _ => xDs s p) rv (fun _ _ hp => hp)) :=
  metG (n := 60) (tab := tG_dies) (cals := [(175, sG_requireSide), (279, sG_requireSide), (284, ct2 1 1 (fun _ _ hp => szOk hp) (fun _ _ _ => 0) (fun die s hp => oc hp s die) (fun _ _ hp => hp)), (291, cs3 1 (fun _ _ _ _ => True) (fun _ _ _ _ => 0) (fun a b p _ => fl a b p))]) hE rfl (by decide) (by decide) kG_dies rfl (cf_s 87 (lG_87 (M_G_requireSide hE) (by decide) rfl) (cf_s 139 (lG_139 (M_G_requirePart hE) (by decide) rfl) (cf_v 142 (lG_142 hMC (by decide) ct2_t rfl) (cf_s 145 (lG_145 hML (by decide) rfl) cf_nil)))) (rt_i rfl) ct2_c (Nat.le_of_ble_eq_true rfl) rfl
    (fun as hp pc => cond (Nat.beq pc 22) (some (fun L hp' => hp' = hp ∧ ∃ (b i : Nat) (s p x y1 y2 y3 : Int32) (q : Int32 × Int32 × Int32) (o : Option Value), as = [.ref 0, .int s, .int p] ∧ xDs s p = 0 ∧ b < 2 ∧ s = nI b ∧ L = [some (.ref 0), some (.int s), some (.int p), some (.int y1), some (.int y2), some (.int y3), some (.int x), o] ∧ x = nI (16 * b + i) ∧ i ≤ 16 ∧ lp (bDs (oc hp s) b) i (0, 0, 0) = q ∧ y1 = q.1 ∧ y2 = q.2.1 ∧ y3 = q.2.2)) none) (fun _ L _ => msk 100 6 L)
    (fun as hp hl h => by
      obtain ⟨s, p, rfl, hP⟩ := ct2_s h
      have X1 : ∀ x, xSide s = x + 1 → xDs s p = x + 1 := fun x q => by unfold xDs; rw [if_neg (by omega)]; exact q
      have X2 : xSide s = 0 → xDs s p = xSide p := fun q => by unfold xDs; rw [if_pos q]
      refine ⟨trivial, fun r1 => ⟨trivial, fun r5 => ?_, fun e5 x5 => ⟨(X2 r1).trans x5, rfl⟩⟩, fun e1 x1 => ⟨X1 e1 x1, rfl⟩⟩
      have r1 : xSide s = 0 := r1
      have r5 : xSide p = 0 := r5
      rcases xSide0 r1 with rfl | rfl
      · exact ⟨rfl, rfl, 0, 0, 0, p, _, _, _, _, (0, 0, 0), _, rfl, (X2 r1).trans r5, by omega, rfl, rfl, rfl, by omega, rfl, rfl, rfl, rfl⟩
      · exact ⟨rfl, rfl, 1, 0, 1, p, _, _, _, _, (0, 0, 0), _, rfl, (X2 r1).trans r5, by omega, rfl, rfl, rfl, by omega, rfl, rfl, rfl, rfl⟩)
    (fun as hp hl h pc P hq L hp' hL _ => by
      obtain ⟨s, p, rfl, hP⟩ := ct2_s h
      obtain ⟨rfl, rfl⟩ := at1 hq
      obtain ⟨rfl, b, i, s', p', x, y1, y2, y3, q, o, heq, Z, hb, eb, rfl, ex, hi, eq, e1, e2, e3⟩ := hL
      cases heq
      have hbd : (s + 1) * 16 = nI (16 * b + 16) := by
        rw [eb, nI_1, show (16 : Int32) = nI 16 from rfl, pk_mul]; congr 1; omega
      refine ⟨fun c30 => ⟨fun c88 => ⟨trivial, fun r109 => ⟨Z, ?_, rfl⟩, fun e109 x109 => no0 x109⟩, fun c88 => ⟨trivial, fun r94 => ⟨Z, ?_, rfl⟩, fun e94 x94 => no0 x94⟩⟩, fun c30 => ?_⟩
      · have := cge ex hbd (by omega) (by omega) c30
        have hi2 : i = 16 := by omega
        subst hi2
        have c88 : ¬ y1 = 0 := c88
        rw [e1] at c88
        have := (hrv s b p hp' q hb eb eq).2 c88
        show some (fl (y2 * y1) (y1 - y3) p) = some (rv s p hp')
        rw [this, e1, e2, e3]
      · have := cge ex hbd (by omega) (by omega) c30
        have hi2 : i = 16 := by omega
        subst hi2
        have c88 : y1 = 0 := c88
        rw [e1] at c88
        have := (hrv s b p hp' q hb eb eq).1 c88
        show some (fl 0 1 p) = some (rv s p hp')
        rw [this]
      · have hlt := clt ex hbd (by omega) (by omega) c30
        have hstep : lp (bDs (oc hp' s) b) (i + 1) (0, 0, 0) = (q.1 + oc hp' s x, q.2.1 + (if oc hp' s x ≤ 0 then 0 else 1), q.2.2 + (if oc hp' s x = 1 then 1 else 0)) := by rw [ex, ← eq]; rfl
        refine ⟨⟨rfl, hP⟩, fun r40 => ⟨fun c54 => ⟨fun c70 => ?_, fun c70 => ?_⟩, fun c54 => ⟨fun c70 => ?_, fun c70 => ?_⟩⟩, fun e40 x40 => no0 x40⟩
        all_goals refine ⟨rfl, ⟨rfl, b, i + 1, s, p, _, _, _, _, _, _, rfl, Z, hb, eb, rfl, inc1 ex, by omega, hstep, ?_, ?_, ?_⟩, dec1 ex (by omega) (by omega)⟩
        · show y1 + oc hp' s x = _; rw [e1]
        · have c54 : oc hp' s x ≤ 0 := c54
          show y2 + 0 = q.2.1 + (if oc hp' s x ≤ 0 then 0 else 1); rw [e2, if_pos c54]
        · have c70 : ¬ oc hp' s x = 1 := c70
          show y3 + 0 = q.2.2 + (if oc hp' s x = 1 then 1 else 0); rw [e3, if_neg c70]
        · show y1 + oc hp' s x = _; rw [e1]
        · have c54 : oc hp' s x ≤ 0 := c54
          show y2 + 0 = q.2.1 + (if oc hp' s x ≤ 0 then 0 else 1); rw [e2, if_pos c54]
        · have c70 : oc hp' s x = 1 := c70
          show y3 + 1 = q.2.2 + (if oc hp' s x = 1 then 1 else 0); rw [e3, if_pos c70]
        · show y1 + oc hp' s x = _; rw [e1]
        · have c54 : ¬ oc hp' s x ≤ 0 := c54
          show y2 + 1 = q.2.1 + (if oc hp' s x ≤ 0 then 0 else 1); rw [e2, if_neg c54]
        · have c70 : ¬ oc hp' s x = 1 := c70
          show y3 + 0 = q.2.2 + (if oc hp' s x = 1 then 1 else 0); rw [e3, if_neg c70]
        · show y1 + oc hp' s x = _; rw [e1]
        · have c54 : ¬ oc hp' s x ≤ 0 := c54
          show y2 + 1 = q.2.1 + (if oc hp' s x ≤ 0 then 0 else 1); rw [e2, if_neg c54]
        · have c70 : oc hp' s x = 1 := c70
          show y3 + 1 = q.2.2 + (if oc hp' s x = 1 then 1 else 0); rw [e3, if_pos c70])
def fDs (s p : Int32) (hp : mm_Hp) : Int32 := eDs p (lp (bDs (ownC hp s) s.toNatClampNeg) 16 (0, 0, 0))
def sG_dies : mm_Ct := ct2 0 1 (fun _ _ hp => szOk hp) (fun s p _ => xDs s p) fDs (fun _ _ hp => hp)
theorem fDs_eq (s : Int32) (b : Nat) (p : Int32) (hp : mm_Hp) (q : Int32 × Int32 × Int32) (hb : b < 2) (es : s = nI b) (eq : lp (bDs (ownC hp s) b) 16 (0, 0, 0) = q) : (q.1 = 0 → fDs s p hp = fLess 0 1 p) ∧ (¬ q.1 = 0 → fDs s p hp = fLess (q.2.1 * q.1) (q.1 - q.2.2) p) := by
  have h1 : fDs s p hp = eDs p q := by
    unfold fDs
    rw [nx es (by omega), eq]
  rw [h1]
  exact ⟨fun h => if_pos h, fun h => if_neg h⟩
theorem M_G_dies {E : En} (hE : EOk E) : Mt E yG_dies cG_dies 8 (some .int) 9 sG_dies :=
  M_G_dies_g hE ownC (M_C_sureCoinsWith hE) fLess (M_G_lessened hE) fDs fDs_eq
def xMn (d p : Int32) : Nat := if xDie d = 0 then xSide p else xDie d
def bMn (hp : mm_Hp) (g : Nat → Int32) (l : Int32) (k : Nat) (q : Int32 × Int32) : Int32 × Int32 := if hp.1 11 k = 0 then (if g (hp.1 5 k).toNatClampNeg = l then (q.1 + hp.1 7 k, q.2 + 1) else q) else q
theorem M_G_mean_g {E : En} (hE : EOk E) (hb : mm_Hp → mm_Hp) (hMB : Mt E yH_build cH_build 4 none 3 (ct0 2 0 cnOk (fun _ => 0) (fun _ => 0) hb)) (fl : Int32 → Int32 → Int32 → Int32) (hML : Mt E yG_lessened cG_lessened 5 (some .int) 2 (cs3 1 (fun _ _ _ _ => True) (fun _ _ _ _ => 0) (fun a b p _ => fl a b p))) (rv : Int32 → Int32 → mm_Hp → Int32) (sg : Int32 → Int32 → mm_Hp → mm_Hp) (g : mm_Hp → Nat → Int32)
    (h12 : ∀ hp, (hb hp).1 12 = g hp) (hne : ∀ hp c, c ≠ 2 → c ≠ 12 → (hb hp).1 c = hp.1 c) (hrv : ∀ d p hp q, lp (bMn hp (g hp) (g hp d.toNatClampNeg)) (szN hp) (0, 0) = q → (q.2 = 0 → rv d p hp = fl 0 1 p) ∧ (¬ q.2 = 0 → rv d p hp = fl q.1 q.2 p)) (hsg : ∀ d p hp, xMn d p = 0 → sg d p hp = hb hp) (hsx : ∀ d p hp x, xMn d p = x + 1 → sg d p hp = hp) :
    Mt E yG_mean cG_mean 7 (some .int) 9 (ct2 0 1 (fun _ _ hp => cnOk hp) (fun d p _ => xMn d p) rv sg) :=
  metG (n := 60) (tab := tG_mean) (cals := [(201, sG_requireDie), (279, sG_requireSide), (264, ct0 2 0 cnOk (fun _ => 0) (fun _ => 0) hb), (266, sH_leastDieWith), (116, sC_size), (150, sC_isDoubted), (296, sC_dieOf), (302, sC_milligramsOf), (291, cs3 1 (fun _ _ _ _ => True) (fun _ _ _ _ => 0) (fun a b p _ => fl a b p))]) hE rfl (by decide) (by decide) kG_mean rfl (cf_s 100 (lG_100 (M_G_requireDie hE) (by decide) rfl) (cf_s 139 (lG_139 (M_G_requirePart hE) (by decide) rfl) (cf_v 132 (lG_132 hMB (by decide) ct0_t rfl) (cf_v 133 (lG_133 (M_H_leastDieWith hE) (by decide) ct1_t rfl) (cf_v 58 (lG_58 (M_C_size hE) (by decide) ct0_t rfl) (cf_v 75 (lG_75 (M_C_isDoubted hE) (by decide) ct1_t rfl) (cf_v 148 (lG_148 (M_C_dieOf hE) (by decide) ct2_t rfl) (cf_v 151 (lG_151 (M_C_milligramsOf hE) (by decide) ct1_t rfl) (cf_s 145 (lG_145 hML (by decide) rfl) cf_nil))))))))) (rt_i rfl) ct2_c (Nat.le_of_ble_eq_true rfl) rfl
    (fun as hp pc => cond (Nat.beq pc 33) (some (fun L hp' => hp' = hb hp ∧ ∃ (i : Nat) (d p x l y1 y2 : Int32) (q : Int32 × Int32), as = [.ref 0, .int d, .int p] ∧ xMn d p = 0 ∧ l = g hp d.toNatClampNeg ∧ L = [some (.ref 0), some (.int d), some (.int p), some (.int l), some (.int y1), some (.int y2), some (.int x)] ∧ x = nI i ∧ i ≤ szN hp ∧ lp (bMn hp (g hp) l) i (0, 0) = q ∧ y1 = q.1 ∧ y2 = q.2)) none) (fun _ L _ => msk 100 6 L)
    (fun as hp hl h => by
      obtain ⟨d, p, rfl, hP⟩ := ct2_s h
      have X1 : ∀ x, xDie d = x + 1 → xMn d p = x + 1 := fun x q => by unfold xMn; rw [if_neg (by omega)]; exact q
      have X2 : xDie d = 0 → xMn d p = xSide p := fun q => by unfold xMn; rw [if_pos q]
      refine ⟨trivial, fun r1 => ⟨trivial, fun r5 => ?_, fun e5 x5 => ⟨(X2 r1).trans x5, (hsx d p hp e5 ((X2 r1).trans x5)).symm⟩⟩, fun e1 x1 => ⟨X1 e1 x1, (hsx d p hp e1 (X1 e1 x1)).symm⟩⟩
      have r1 : xDie d = 0 := r1
      have r5 : xSide p = 0 := r5
      refine ⟨⟨rfl, hP⟩, fun r12 => ⟨⟨rfl, xDie0 r1⟩, fun r20 => ⟨rfl, rfl, 0, d, p, _, _, _, _, (0, 0), rfl, (X2 r1).trans r5, ?_, rfl, rfl, by omega, rfl, rfl, rfl⟩, fun e20 x20 => no0 x20⟩, fun e12 x12 => no0 x12⟩
      show (hb hp).1 12 d.toNatClampNeg = _
      rw [h12])
    (fun as hp hl h pc P hq L hp' hL _ => by
      obtain ⟨d, p, rfl, hP⟩ := ct2_s h
      obtain ⟨rfl, rfl⟩ := at1 hq
      obtain ⟨rfl, i, d', p', x, l, y1, y2, q, heq, Z, el, rfl, ex, hi, eq, e1, e2⟩ := hL
      cases heq
      obtain ⟨n, hn, hs, hsz⟩ := szE hP.1
      rw [hsz] at hi
      have h1 : (hb hp).1 1 7 = nI n := by rw [hne hp 1 (by omega) (by omega)]; exact hs
      refine ⟨⟨rfl, trivial⟩, fun r39 => ⟨fun c42 => ⟨fun c103 => ⟨trivial, fun r120 => ⟨Z, ?_, (hsg d p hp Z).symm⟩, fun e120 x120 => no0 x120⟩, fun c103 => ⟨trivial, fun r109 => ⟨Z, ?_, (hsg d p hp Z).symm⟩, fun e109 x109 => no0 x109⟩⟩, fun c42 => ?_⟩, fun e39 x39 => no0 x39⟩
      · have c42 : (hb hp).1 1 7 ≤ x := c42
        have := cge ex h1 (by omega) (by omega) c42
        have hi2 : i = n := by omega
        subst hi2
        have c103 : ¬ y2 = 0 := c103
        rw [e2] at c103
        have := (hrv d p hp q (by rw [← el, hsz]; exact eq)).2 c103
        show some (fl y1 y2 p) = some (rv d p hp)
        rw [this, e1, e2]
      · have c42 : (hb hp).1 1 7 ≤ x := c42
        have := cge ex h1 (by omega) (by omega) c42
        have hi2 : i = n := by omega
        subst hi2
        have c103 : y2 = 0 := c103
        rw [e2] at c103
        have := (hrv d p hp q (by rw [← el, hsz]; exact eq)).1 c103
        show some (fl 0 1 p) = some (rv d p hp)
        rw [this]
      · have c42 : ¬ (hb hp).1 1 7 ≤ x := c42
        have hlt := clt ex h1 (by omega) (by omega) c42
        have hin : vp_in x 80 := inx ex (by omega) (by omega)
        have hx := nx ex (by omega)
        have hB : isB (hp.1 11 i) := (hP.2 i (by omega)).1
        obtain ⟨f, hf, ef⟩ := (hP.2 i (by omega)).2.1
        have hstep : lp (bMn hp (g hp) l) (i + 1) (0, 0) = bMn hp (g hp) l i q := by rw [← eq]; rfl
        have e11 : (hb hp).1 11 x.toNatClampNeg = hp.1 11 i := by rw [hne hp 11 (by omega) (by omega), hx]
        have e5 : (hb hp).1 5 x.toNatClampNeg = nI f := by rw [hne hp 5 (by omega) (by omega), hx]; exact ef
        have e7 : (hb hp).1 7 x.toNatClampNeg = hp.1 7 i := by rw [hne hp 7 (by omega) (by omega), hx]
        refine ⟨⟨rfl, hin, ?_⟩, fun r51 => ⟨fun c54 => ?_, fun c54 => ⟨⟨rfl, hin⟩, fun r68 => ⟨⟨rfl, ?_⟩, fun r71 => ⟨fun c75 => ?_, fun c75 => ⟨⟨rfl, hin⟩, fun r86 => ?_, fun e86 x86 => no0 x86⟩⟩, fun e71 x71 => no0 x71⟩, fun e68 x68 => no0 x68⟩⟩, fun e51 x51 => no0 x51⟩
        · show isB ((hb hp).1 11 x.toNatClampNeg)
          rw [e11]; exact hB
        · have c54 : ¬ (hb hp).1 11 x.toNatClampNeg = 0 := c54
          rw [e11] at c54
          refine ⟨rfl, ⟨rfl, i + 1, d, p, _, _, _, _, q, rfl, Z, el, rfl, inc1 ex, by omega, ?_, e1, e2⟩, dec1 ex (by omega) (by omega)⟩
          rw [hstep]; unfold bMn; rw [if_neg c54]
        · show vp_in (if (0 : Int32) = 0 then (hb hp).1 5 x.toNatClampNeg else (hb hp).1 6 x.toNatClampNeg) 32
          rw [if_pos rfl, e5]; exact nIv (by omega) (by omega)
        · have c54 : (hb hp).1 11 x.toNatClampNeg = 0 := c54
          have c75 : ¬ (hb hp).1 12 (if (0 : Int32) = 0 then (hb hp).1 5 x.toNatClampNeg else (hb hp).1 6 x.toNatClampNeg).toNatClampNeg = l := c75
          rw [e11] at c54
          rw [if_pos rfl, e5, h12, ← ef] at c75
          refine ⟨rfl, ⟨rfl, i + 1, d, p, _, _, _, _, q, rfl, Z, el, rfl, inc1 ex, by omega, ?_, e1, e2⟩, dec1 ex (by omega) (by omega)⟩
          rw [hstep]; unfold bMn; rw [if_pos c54, if_neg c75]
        · have c54 : (hb hp).1 11 x.toNatClampNeg = 0 := c54
          have c75 : (hb hp).1 12 (if (0 : Int32) = 0 then (hb hp).1 5 x.toNatClampNeg else (hb hp).1 6 x.toNatClampNeg).toNatClampNeg = l := c75
          rw [e11] at c54
          rw [if_pos rfl, e5, h12, ← ef] at c75
          refine ⟨rfl, ⟨rfl, i + 1, d, p, _, _, _, _, _, rfl, Z, el, rfl, inc1 ex, by omega, hstep, ?_, ?_⟩, dec1 ex (by omega) (by omega)⟩
          · show y1 + (hb hp).1 7 x.toNatClampNeg = _
            unfold bMn; rw [if_pos c54, if_pos c75, e7, e1]
          · show y2 + 1 = _
            unfold bMn; rw [if_pos c54, if_pos c75, e2])
def eMn (p : Int32) (q : Int32 × Int32) : Int32 := if q.2 = 0 then fLess 0 1 p else fLess q.1 q.2 p
def fMn (d p : Int32) (hp : mm_Hp) : Int32 := eMn p (lp (bMn hp (fBuild hp).2 ((fBuild hp).2 d.toNatClampNeg)) (szN hp) (0, 0))
theorem fMn_eq (d p : Int32) (hp : mm_Hp) (q : Int32 × Int32) (h : lp (bMn hp (fBuild hp).2 ((fBuild hp).2 d.toNatClampNeg)) (szN hp) (0, 0) = q) : (q.2 = 0 → fMn d p hp = fLess 0 1 p) ∧ (¬ q.2 = 0 → fMn d p hp = fLess q.1 q.2 p) := by
  have h1 : fMn d p hp = eMn p q := by unfold fMn; rw [h]
  rw [h1]
  exact ⟨fun h => if_pos h, fun h => if_neg h⟩
theorem hBuild_ne (hp : mm_Hp) (c : Nat) (h2 : c ≠ 2) (h12 : c ≠ 12) : (hBuild hp).1 c = hp.1 c := by
  unfold hBuild
  rw [sR_ne h12, sR_ne h2]
def sG_mean : mm_Ct := ct2 0 1 (fun _ _ hp => cnOk hp) (fun d p _ => xMn d p) fMn (fun d p hp => if xMn d p = 0 then hBuild hp else hp)
theorem M_G_mean {E : En} (hE : EOk E) : Mt E yG_mean cG_mean 7 (some .int) 9 sG_mean :=
  M_G_mean_g hE hBuild (M_H_build hE) fLess (M_G_lessened hE) fMn (fun d p hp => if xMn d p = 0 then hBuild hp else hp) (fun hp => (fBuild hp).2) hBuild_12 hBuild_ne fMn_eq (fun d p hp h => if_pos h) (fun d p hp x h => if_neg (by omega))
