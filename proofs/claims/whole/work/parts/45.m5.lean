/-! ===== the reference: tellRing ===== -/
def rrw (rg : Nat → Nat) (k : Nat) (g : Nat → Int32) : Nat → Int32 := lp (fun j g => upd g j (nI (rg j))) k g
theorem rrw_at (rg : Nat → Nat) (g : Nat → Int32) : ∀ (k j : Nat), j < k → rrw rg k g j = nI (rg j)
  | 0, j, h => absurd h (by omega)
  | k + 1, j, h => by
    show upd (rrw rg k g) k (nI (rg k)) j = _
    unfold upd
    split
    · rename_i q; rw [q]
    · exact rrw_at rg g k j (by omega)
def hT3 (mr : Nat → Int32) (rg : Nat → Nat) (hp : mm_Hp) (b k : Nat) : mm_Hp := sR (sR (sR hp 35 mr) 25 (upd (hp.1 25) 13 (nI b))) 36 (rrw rg k (hp.1 36))
theorem msTl_82 (L : mm_Loc) : msTl 82 L = 1000000 + (100 - msv 3 L) * 100 + msw 5 L := rfl
def iTl (hp : mm_Hp) (z : Nat → Nat) (b : Nat) (p : Nat → Nat → Bool) (h3 : Nat → mm_Hp) (pc : Nat) : Option (mm_Loc → mm_Hp → Prop) :=
  cond (Nat.beq pc 7) (some (fun L hp' => ∃ (i : Nat) (x1 x2 x3 : Int32) (o : Option Value) (f : Nat → Int32), L = [some (.ref 25), some (.int x1), some (.int x2), some (.int x3), o, none] ∧ x1 = nI (qBf z i).1 ∧ x2 = nI (qBf z i).2 ∧ x3 = nI i ∧ i ≤ 32 ∧ hp' = sR hp 35 f ∧ ∀ d, 32 ≤ d → f d = hp.1 35 d))
  (cond (Nat.beq pc 70) (some (fun L hp' => ∃ (k : Nat) (x1 x2 x3 : Int32) (o o2 : Option Value), L = [some (.ref 25), some (.int x1), some (.int x2), some (.int x3), o, o2] ∧ x1 = nI b ∧ x3 = nI k ∧ 1 ≤ k ∧ k ≤ b ∧ hp' = h3 k))
  (cond (Nat.beq pc 82) (some (fun L hp' => ∃ (k i : Nat) (x1 x2 x3 x4 x5 : Int32), L = [some (.ref 25), some (.int x1), some (.int x2), some (.int x3), some (.int x4), some (.int x5)] ∧ x1 = nI b ∧ x3 = nI k ∧ 1 ≤ k ∧ k < b ∧ i ≤ 32 ∧ x5 + 1 = nI i ∧ x4 = nxI (p k) i ∧ hp' = h3 k)) none))
set_option maxRecDepth 20000 in
theorem M_M_tellRing_g {E : En} (hE : EOk E) (rR : Int32 → mm_Hp → Int32) (hM : Int32 → mm_Hp → mm_Hp)
    (hMR : Mt E yM_ringOf cM_ringOf 4 (some .int) 2 (ct1 25 1 (fun t _ => vp_in t 32) (fun _ _ => 0) rR hM)) (hMM : Mt E yM_measure cM_measure 4 none 1 (ct1 25 0 (fun t _ => vp_in t 32) (fun _ _ => 0) (fun _ _ => 0) hM))
    (zf : (Nat → Int32) → Nat → Nat) (hz9 : ∀ g d, zf g d ≤ 99) (hrR : ∀ t hp, t < 32 → rR (nI t) hp = nI (zf (hp.1 33) t))
    (dd : (Nat → Int32) → Nat → Nat → Nat) (hd9 : ∀ g t d, dd g t d ≤ 99) (mr : (Nat → Int32) → (Nat → Int32) → Nat → Nat → Int32) (hMr : ∀ t hp, t < 32 → hM (nI t) hp = sR hp 35 (mr (hp.1 33) (hp.1 35) t)) (mr1 : ∀ g f t d, d < 32 → mr g f t d = nI (dd g t d)) (mr2 : ∀ g f t d, 32 ≤ d → mr g f t d = f d)
    (bq tq : (Nat → Int32) → Nat) (hbt : ∀ g, qBf (zf g) 32 = (bq g, tq g)) (rg : (Nat → Int32) → Nat → Nat) (rg0 : ∀ g, rg g 0 = tq g) (pT : (Nat → Int32) → Nat → Nat → Bool) (hpT : ∀ g k d, pT g k d = (stM g (rg g (k - 1)) d && decide (dd g (tq g) d = bq g - k))) (rgs : ∀ g k, rg g (k + 1) = fnd (pT g (k + 1)) 32 0)
    (PT : (Nat → Int32) → Prop) (hPT : ∀ g, PT g → 1 ≤ bq g ∧ bq g ≤ 32 ∧ ∀ k, k < bq g → rg g k < 32)
    (sg : mm_Hp → mm_Hp) (hsg : ∀ hp, sg hp = hT3 (mr (hp.1 33) (hp.1 35) (tq (hp.1 33))) (rg (hp.1 33)) hp (bq (hp.1 33)) (bq (hp.1 33))) : Mt E yM_tellRing cM_tellRing 6 none 3 (ct0 25 0 (fun hp => PT (hp.1 33)) (fun _ => 0) (fun _ => 0) sg) :=
  met (n := 60) (tab := tM_tellRing) (cals := [(168, ct1 25 1 (fun t _ => vp_in t 32) (fun _ _ => 0) rR hM), (160, ct1 25 0 (fun t _ => vp_in t 32) (fun _ _ => 0) (fun _ _ => 0) hM)]) hE flM_ok pfM_ok csM_ok rfl (by decide) kM_tellRing rfl (cf_v 84 (lM_84 hMR (by decide) ct1_t rfl) (cf_v 80 (lM_80 hMM (by decide) ct1_t rfl) cf_nil)) (rt_v rfl) ct0_c (Nat.le_of_ble_eq_true rfl) rfl
    (fun as hp pc => iTl hp (zf (hp.1 33)) (bq (hp.1 33)) (pT (hp.1 33)) (hT3 (mr (hp.1 33) (hp.1 35) (tq (hp.1 33))) (rg (hp.1 33)) hp (bq (hp.1 33))) pc) (fun pc L _ => msTl pc L)
    (fun as hp hl h => by
      obtain ⟨rfl, hP⟩ := ct0_s h
      exact ⟨rfl, 0, _, _, _, _, hp.1 35, rfl, rfl, rfl, rfl, by omega, (sR_self hp 35).symm, fun d hd => rfl⟩)
    (fun as hp hl h pc P hq L hp' hL _ => by
      obtain ⟨rfl, hP⟩ := ct0_s h
      have hs := hsg hp
      have hQ := qBf_ok (zf (hp.1 33))
      have hqq := hbt (hp.1 33)
      obtain ⟨hb1, hb2, hrg⟩ := hPT _ hP
      have h0 := rg0 (hp.1 33)
      have hss := rgs (hp.1 33)
      have hpp := hpT (hp.1 33)
      have hzz := hz9 (hp.1 33)
      generalize bq (hp.1 33) = b at *
      generalize htt : tq (hp.1 33) = t at *
      have ht : t < 32 := by rw [← h0]; exact hrg 0 (by omega)
      unfold iTl at hq
      rcases atc hq with ⟨rfl, rfl⟩ | hq
      · obtain ⟨i, x1, x2, x3, o, f, rfl, e1, e2, e3, hi, ehp, hf⟩ := hL
        refine ⟨fun c10 => ?_, fun c10 => ?_⟩
        · have := cge e3 (n := 32) rfl (by omega) (by omega) c10
          have hi2 : i = 32 := by omega
          subst hi2
          rw [hqq] at e1 e2
          have e1 : x1 = nI b := e1
          have e2 : x2 = nI t := e2
          have hme : hM x2 hp' = sR hp 35 (mr (hp.1 33) (hp.1 35) t) := by
            have hmf : mr (hp.1 33) f t = mr (hp.1 33) (hp.1 35) t := funext fun d => by
              rcases Nat.lt_or_ge d 32 with q | q
              · rw [mr1 _ _ _ _ q, mr1 _ _ _ _ q]
              · rw [mr2 _ _ _ _ q, mr2 _ _ _ _ q, hf d q]
            rw [e2, hMr t _ ht, ehp, sR_sR, sR_ne (by omega), sR_at, hmf]
          refine ⟨⟨rfl, inx e2 ht (by omega)⟩, fun r53 => ⟨?_, ⟨rfl, ⟨1, _, _, _, _, _, rfl, e1, rfl, by omega, by omega, ?_⟩, ?_⟩⟩, fun e53 x53 => no0 x53⟩
          · exact nIv (i := 0) (by omega) (by omega)
          · show (mm_up (mm_up (hM x2 hp').1 25 13 x1) 36 (0 : Int32).toNatClampNeg x2, (hM x2 hp').2) = hT3 (mr (hp.1 33) (hp.1 35) t) (rg (hp.1 33)) hp b 1
            rw [hme, e1, e2]
            have h1 := up_as (sR hp 35 (mr (hp.1 33) (hp.1 35) t)) 25 13 (nI b)
            have h2 := up_as (mm_up (sR hp 35 (mr (hp.1 33) (hp.1 35) t)).1 25 13 (nI b), (sR hp 35 (mr (hp.1 33) (hp.1 35) t)).2) 36 (0 : Int32).toNatClampNeg (nI t)
            refine h2.trans ?_
            rw [h1]
            unfold hT3
            rw [sR_ne (c := 35) (k := 25) (by omega), sR_ne (c := 25) (k := 36) (by omega), sR_ne (c := 35) (k := 36) (by omega)]
            exact congrArg (sR _ 36) (show upd (hp.1 36) 0 (nI t) = upd (hp.1 36) 0 (nI (rg (hp.1 33) 0)) by rw [h0])
          · show 1000000 + (100 - (1 : Int32).toNatClampNeg) * 100 + 99 < 2000000 + (100 - x3.toNatClampNeg)
            omega
        · have hlt := clt e3 (n := 32) rfl (by omega) (by omega) c10
          have hx3 := nx e3 (by omega)
          have hz : rR x3 hp' = nI (zf (hp.1 33) i) := by
            rw [e3, hrR i _ hlt, ehp, sR_ne (by omega)]
          have hz9' := hzz i
          have hq9 := (hQ i hi).1
          have hstep : qBf (zf (hp.1 33)) (i + 1) = bBf (zf (hp.1 33)) i (qBf (zf (hp.1 33)) i) := rfl
          have hme : hM x3 hp' = sR hp 35 (mr (hp.1 33) f i) := by
            rw [e3, hMr i _ hlt, ehp, sR_sR, sR_ne (by omega), sR_at]
          have hff : ∀ d, 32 ≤ d → mr (hp.1 33) f i d = hp.1 35 d := fun d hd => by
            rw [mr2 _ _ _ _ hd]; exact hf d hd
          have hms : 2000000 + (100 - (x3 + 1).toNatClampNeg) < 2000000 + (100 - x3.toNatClampNeg) := by
            rw [inc1 e3, hx3, nIc (by omega)]; omega
          refine ⟨⟨rfl, inx e3 hlt (by omega)⟩, fun r15 => ⟨fun c23 => ⟨fun c35 => ?_, fun c35 => absurd c23 c35⟩, fun c23 => ⟨fun c35 => absurd c35 c23, fun c35 => ?_⟩⟩, fun e15 x15 => no0 x15⟩
          · have c23 : x1 ≤ rR x3 hp' := c23
            rw [hz, e1] at c23
            have c23 := (nI_leI (by omega) (by omega)).mp c23
            have hb : bBf (zf (hp.1 33)) i (qBf (zf (hp.1 33)) i) = qBf (zf (hp.1 33)) i := if_neg (by omega)
            exact ⟨rfl, ⟨i + 1, _, _, _, _, _, rfl, by rw [hstep, hb]; exact e1, by rw [hstep, hb]; exact e2, inc1 e3, by omega, hme, hff⟩, hms⟩
          · have c23 : ¬ x1 ≤ rR x3 hp' := c23
            have c23 : ¬ x1 ≤ rR x3 hp' := c23
            rw [hz, e1] at c23
            have c23 : ¬ _ := fun q => c23 ((nI_leI (by omega) (by omega)).mpr q)
            have hb : bBf (zf (hp.1 33)) i (qBf (zf (hp.1 33)) i) = (zf (hp.1 33) i, i) := if_pos (by omega)
            exact ⟨rfl, ⟨i + 1, _, _, _, _, _, rfl, by rw [hstep, hb]; exact hz, by rw [hstep, hb]; exact e3, inc1 e3, by omega, hme, hff⟩, hms⟩
      rcases atc hq with ⟨rfl, rfl⟩ | hq
      · obtain ⟨k, x1, x2, x3, o, o2, rfl, e1, e3, hk1, hk2, ehp⟩ := hL
        refine ⟨fun c72 => ⟨rfl, rfl, ?_⟩, fun c72 => ?_⟩
        · have := cge e3 e1 (by omega) (by omega) c72
          have hk3 : k = b := by omega
          subst hk3
          exact ehp.trans hs.symm
        · have hlt := clt e3 e1 (by omega) (by omega) c72
          refine ⟨rfl, ⟨k, 32, _, _, _, _, _, rfl, e1, e3, hk1, hlt, by omega, rfl, rfl, ehp⟩, ?_⟩
          show 1000000 + (100 - x3.toNatClampNeg) * 100 + (31 + 1 : Int32).toNatClampNeg < 1000000 + (100 - x3.toNatClampNeg) * 100 + 99
          have : (31 + 1 : Int32).toNatClampNeg = 32 := rfl
          omega
      obtain ⟨rfl, rfl⟩ := at1 hq
      obtain ⟨k, i, x1, x2, x3, x4, x5, rfl, e1, e3, hk1, hk2, hi, e5, e4, ehp⟩ := hL
      have hx3 := nx e3 (by omega)
      have v36 : hp'.1 36 = rrw (rg (hp.1 33)) k (hp.1 36) := by rw [ehp]; exact sR_at _ _ _
      refine ⟨fun c84 => ?_, fun c84 => ?_⟩
      · have hi0 : i = 0 := by
          rcases Nat.eq_zero_or_pos i with h3 | h3
          · exact h3
          · exfalso
            have : x5 = nI (i - 1) := by
              have h4 : x5 = nI i - 1 := by rw [← e5]; exact (Int32.add_sub_cancel x5 1).symm
              rw [h4, show i = (i - 1) + 1 by omega]
              exact nI_pred (i - 1)
            have c84 : x5 < 0 := c84
            rw [this] at c84
            exact nI_pos (by omega) c84
        subst hi0
        have hr := hrg k hk2
        have hrk : rg (hp.1 33) k = fnd (pT (hp.1 33) k) 32 0 := by
          obtain ⟨k', rfl⟩ : ∃ k', k = k' + 1 := ⟨k - 1, by omega⟩
          exact hss k'
        have e4 : x4 = nI (rg (hp.1 33) k) := by
          rw [e4, hrk]
          exact nxI_0 _ (by rw [← hrk]; exact hr)
        refine ⟨inx e3 (by omega) (by omega), ⟨rfl, ⟨k + 1, _, _, _, _, _, rfl, e1, inc1 e3, by omega, by omega, ?_⟩, ?_⟩⟩
        · show (mm_up hp'.1 36 x3.toNatClampNeg x4, hp'.2) = hT3 (mr (hp.1 33) (hp.1 35) t) (rg (hp.1 33)) hp b (k + 1)
          rw [hx3, e4, ehp]
          unfold hT3
          rw [up_sR]
          rfl
        · show 1000000 + (100 - (x3 + 1).toNatClampNeg) * 100 + 99 < 1000000 + (100 - x3.toNatClampNeg) * 100 + (x5 + 1).toNatClampNeg
          rw [inc1 e3, hx3, nIc (by omega)]; omega
      · have hi0 : 0 < i := by
          rcases Nat.eq_zero_or_pos i with h3 | h3
          · exfalso
            subst h3
            have h4 : x5 = nI 0 - 1 := by rw [← e5]; exact (Int32.add_sub_cancel x5 1).symm
            have c84 : ¬ x5 < 0 := c84
            rw [h4] at c84
            exact c84 (by decide)
          · exact h3
        obtain ⟨j, rfl⟩ : ∃ j, i = j + 1 := ⟨i - 1, by omega⟩
        have e5' : x5 = nI j := by
          have h4 : x5 = nI (j + 1) - 1 := by rw [← e5]; exact (Int32.add_sub_cancel x5 1).symm
          rw [h4]; exact nI_pred j
        have hx5 := nx e5' (by omega)
        have hx31 : x3 - 1 = nI (k - 1) := by
          rw [e3, show k = (k - 1) + 1 by omega]; exact nI_pred (k - 1)
        have hrg1 := hrg (k - 1) (by omega)
        have v36a : hp'.1 36 (x3 - 1).toNatClampNeg = nI (rg (hp.1 33) (k - 1)) := by
          rw [v36, hx31, nIc (by omega)]; exact rrw_at _ _ _ _ (by omega)
        have hix : 32 * hp'.1 36 (x3 - 1).toNatClampNeg + x5 = nI (32 * rg (hp.1 33) (k - 1) + j) := by
          rw [v36a, e5', show (32 : Int32) = nI 32 from rfl, pk_mul, nI_add]
        have v33 : hp'.1 33 (32 * hp'.1 36 (x3 - 1).toNatClampNeg + x5).toNatClampNeg = hp.1 33 (32 * rg (hp.1 33) (k - 1) + j) := by
          rw [hix, nIc (by omega), ehp]
          unfold hT3
          rw [sR_ne (by omega), sR_ne (by omega), sR_ne (by omega)]
        have v35 : hp'.1 35 x5.toNatClampNeg = nI (dd (hp.1 33) t j) := by
          rw [ehp, hx5]
          unfold hT3
          rw [sR_ne (by omega), sR_ne (by omega), sR_at]
          exact mr1 _ _ _ _ (by omega)
        have d99 := hd9 (hp.1 33) t j
        have hbk : x1 - x3 = nI (b - k) := by rw [e1, e3, pk_sub (by omega)]
        have hstep := nxI_step (pT (hp.1 33) k) (i := j) (by omega)
        have hm1 : x5 + (-1) + 1 = nI j := by
          rw [e5']
          rcases Nat.eq_zero_or_pos j with h3 | h3
          · subst h3; decide
          · rw [show j = (j - 1) + 1 by omega, pk_m1, nI_1]
        have hms : ∀ y4 : Int32, msTl 82 [some (.ref 25), some (.int x1), some (.int x2), some (.int x3), some (.int y4), some (.int (x5 + (-1)))] < msTl 82 [some (.ref 25), some (.int x1), some (.int x2), some (.int x3), some (.int x4), some (.int x5)] := by
          intro y4
          rw [msTl_82, msTl_82]
          show 1000000 + (100 - x3.toNatClampNeg) * 100 + (x5 + (-1) + 1).toNatClampNeg < 1000000 + (100 - x3.toNatClampNeg) * 100 + (x5 + 1).toNatClampNeg
          rw [hm1, e5, nIc (by omega), nIc (by omega)]; omega
        refine ⟨?_, ⟨?_, ⟨fun c106 => ⟨rfl, ⟨k, j, _, _, _, _, _, rfl, e1, e3, hk1, hk2, by omega, hm1, ?_, ehp⟩, hms _⟩, fun c106 => ⟨inx e5' (by omega) (by omega), ⟨fun c119 => ⟨rfl, ⟨k, j, _, _, _, _, _, rfl, e1, e3, hk1, hk2, by omega, hm1, ?_, ehp⟩, hms _⟩, fun c119 => ⟨rfl, ⟨k, j, _, _, _, _, _, rfl, e1, e3, hk1, hk2, by omega, hm1, ?_, ehp⟩, hms _⟩⟩⟩⟩⟩⟩
        · show vp_in (x3 - 1) 32
          rw [hx31]; exact nIv (by omega) (by omega)
        · show vp_in (32 * hp'.1 36 (x3 - 1).toNatClampNeg + x5) 1024
          rw [hix]; exact nIv (by omega) (by omega)
        · have c106 : hp'.1 33 (32 * hp'.1 36 (x3 - 1).toNatClampNeg + x5).toNatClampNeg = 0 := c106
          rw [v33] at c106
          have hf : ¬ pT (hp.1 33) k j = true := by
            rw [hpp]; unfold stM; rw [decide_eq_true c106]; simp
          rw [hstep, if_neg hf]; exact e4
        · have c119 : ¬ hp'.1 35 x5.toNatClampNeg = x1 - x3 := c119
          rw [v35, hbk] at c119
          have hf : ¬ pT (hp.1 33) k j = true := by
            rw [hpp, decide_eq_false (fun q => c119 (by rw [q]))]
            simp
          rw [hstep, if_neg hf]; exact e4
        · have c106 : ¬ hp'.1 33 (32 * hp'.1 36 (x3 - 1).toNatClampNeg + x5).toNatClampNeg = 0 := c106
          have c119 : hp'.1 35 x5.toNatClampNeg = x1 - x3 := c119
          rw [v33] at c106
          rw [v35, hbk] at c119
          have c119 := (nI_eq (by omega) (by omega)).mp c119
          have hf : pT (hp.1 33) k j = true := by
            rw [hpp]
            unfold stM
            rw [decide_eq_false c106, decide_eq_true c119]; rfl
          rw [hstep, if_pos hf]; exact e5')
def bqM (g : Nat → Int32) : Nat := (qBf (rsz (stM g)) 32).1
def tqM (g : Nat → Int32) : Nat := (qBf (rsz (stM g)) 32).2
def zfM (g : Nat → Int32) : Nat → Nat := rsz (stM g)
def ddM (g : Nat → Int32) : Nat → Nat → Nat := dst (stM g)
def rgF (g : Nat → Int32) : Nat → Nat := rgM (stM g) (bqM g) (tqM g)
def pTM (g : Nat → Int32) (k d : Nat) : Bool := stM g (rgF g (k - 1)) d && decide (ddM g (tqM g) d = bqM g - k)
theorem qBfM (g : Nat → Int32) : qBf (zfM g) 32 = (bqM g, tqM g) := by
  unfold bqM tqM zfM
  generalize qBf (rsz (stM g)) 32 = q
  rfl
theorem rgM_s (St : Nat → Nat → Bool) (b t k : Nat) : rgM St b t (k + 1) = fnd (fun d => St (rgM St b t k) d && decide (dst St t d = b - (k + 1))) 32 0 := rfl
theorem rgF_0 (g : Nat → Int32) : rgF g 0 = tqM g := by
  unfold rgF
  generalize tqM g = t
  generalize bqM g = b
  rfl
theorem rgF_s (g : Nat → Int32) (k : Nat) : rgF g (k + 1) = fnd (pTM g (k + 1)) 32 0 := by
  unfold pTM
  rw [show k + 1 - 1 = k by omega]
  unfold rgF ddM
  rw [rgM_s]
theorem tellP_M (g : Nat → Int32) (h : tellP g) : 1 ≤ bqM g ∧ bqM g ≤ 32 ∧ ∀ k, k < bqM g → rgF g k < 32 := by
  unfold tellP at h
  unfold rgF bqM tqM
  exact h
theorem hTl_M (hp : mm_Hp) : hTl hp = hT3 (mrow (hp.1 33) (hp.1 35) (tqM (hp.1 33))) (rgF (hp.1 33)) hp (bqM (hp.1 33)) (bqM (hp.1 33)) := by
  unfold hTl hTl3 hT3 rrow rrw rgF bqM tqM
  generalize qBf (rsz (stM (hp.1 33))) 32 = q
  rfl
theorem M_M_tellRing {E : En} (hE : EOk E) : Mt E yM_tellRing cM_tellRing 6 none 3 sM_tellRing :=
  M_M_tellRing_g hE rRo hMe (M_M_ringOf hE) (M_M_measure hE) zfM (fun g d => by unfold zfM; exact rz_99 _ _ 32) (fun t hp ht => by unfold rRo zfM; rw [nIc (by omega)]) ddM (fun g t d => by unfold ddM; exact dst_99 _ _ _) mrow (fun t hp ht => by unfold hMe; rw [nIc (by omega)]) (fun g f t d hd => by unfold mrow ddM; rw [if_pos hd]) (fun g f t d hd => by unfold mrow; rw [if_neg (by omega)])
    bqM tqM qBfM rgF rgF_0 pTM (fun g k d => rfl) rgF_s tellP tellP_M hTl hTl_M
