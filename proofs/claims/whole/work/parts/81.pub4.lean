/-! ===== the reference: rule, type, count, unit ===== -/
def gRl (hp : mm_Hp) : Int32 := fGo (if 12 ≤ hp.1 25 21 then 0 else 1) 1 1
def cpS (src dst : Nat → Int32) (r n : Nat) : Nat → Int32 := lp (fun i g => upd g (40 * r + i) (src i)) n dst
def mRl0 (hp : mm_Hp) : mm_Hp := setA (setT 0 hp) 25 19 0
def mRl1 (hp : mm_Hp) (r t : Nat) : mm_Hp := setA (setA (setA (sR (setT 0 hp) 42 (cpS (hp.1 40) (hp.1 42) r t)) 41 r (hp.1 25 19)) 25 21 (hp.1 25 21 + 1)) 25 19 0
def iRl (hp : mm_Hp) (r t : Nat) (pc : Nat) : Option (mm_Loc → mm_Hp → Prop) := cond (Nat.beq pc 37) (some (fun L hp' => ∃ (i : Nat) (w x : Int32), L = [some (.ref 25), some (.int w), some (.int x)] ∧ x = nI i ∧ i ≤ t ∧ w = -1 ∧ hp' = sR (setT 0 hp) 42 (cpS (hp.1 40) (hp.1 42) r i) ∧ ¬ 12 ≤ hp.1 25 21 ∧ auF (hp.1 40) t 0 (0, 0) = -1)) none
def rlP (hp : mm_Hp) : Prop := (∃ t, t ≤ 40 ∧ hp.1 25 19 = nI t) ∧ ∃ n, n ≤ 12 ∧ hp.1 25 21 = nI n
theorem M_M_rule_g {E : En} (hE : EOk E) (ff : mm_Hp → Int32) (hMF : Mt E yM_fault cM_fault 8 (some .int) 2 (ct0 25 1 (fun hp => ∃ t, t ≤ 40 ∧ hp.1 25 19 = nI t) (fun _ => 0) ff (fun hp => hp))) (hff : ∀ hp t, t ≤ 40 → hp.1 25 19 = nI t → ff hp = auF (hp.1 40) t 0 (0, 0)) (rv : mm_Hp → Int32) (sg : mm_Hp → mm_Hp)
    (r0 : ∀ hp, 12 ≤ hp.1 25 21 → rv hp = 0 ∧ sg hp = setT 1 hp) (r1 : ∀ hp t, t ≤ 40 → hp.1 25 19 = nI t → ¬ 12 ≤ hp.1 25 21 → ¬ auF (hp.1 40) t 0 (0, 0) = -1 → rv hp = -1 - auF (hp.1 40) t 0 (0, 0) ∧ sg hp = mRl0 hp) (r2 : ∀ hp t r, t ≤ 40 → hp.1 25 19 = nI t → hp.1 25 21 = nI r → r < 12 → auF (hp.1 40) t 0 (0, 0) = -1 → rv hp = hp.1 25 21 + 1 - 1 ∧ sg hp = mRl1 hp r t) :
    Mt E yM_rule cM_rule 3 (some .int) 6 (ct0 25 1 rlP (fun _ => 0) rv sg) :=
  met (n := 60) (tab := tM_rule) (cals := [(206, sM_goes), (316, ct0 25 1 (fun hp => ∃ t, t ≤ 40 ∧ hp.1 25 19 = nI t) (fun _ => 0) ff (fun hp => hp))]) hE flM_ok pfM_ok csM_ok rfl (by decide) kM_rule rfl (cf_v 103 (lM_103 (M_M_goes hE) (by decide) ct3_t rfl) (cf_v 158 (lM_158 hMF (by decide) ct0_t rfl) cf_nil)) (rt_i rfl) ct0_c (Nat.le_of_ble_eq_true rfl) rfl
    (fun as hp pc => iRl hp (cN (hp.1 25 21)) (cN (hp.1 25 19)) pc) (fun pc L _ => 100 - msv 2 L)
    (fun as hp hl h => by
      obtain ⟨rfl, ⟨t, ht, et⟩, n, hn, en⟩ := ct0_s h
      have hct : cN (hp.1 25 19) = t := by rw [et, cN_nI (by omega)]
      have hcr : cN (hp.1 25 21) = n := by rw [en, cN_nI (by omega)]
      have et0 : (setT 0 hp).1 25 19 = nI t := by rw [setT_25 _ _ (by omega)]; exact et
      have ef : ff (setT 0 hp) = auF (hp.1 40) t 0 (0, 0) := by rw [hff _ t ht et0, setT_ne _ _ (by omega)]
      refine ⟨fun c7 => ⟨⟨rfl, trivial⟩, fun r17 => ⟨fun c20 => absurd rfl (show ¬ (0 : Int32) = 0 from c20), fun c20 => ?_⟩, fun e17 x17 => no0 x17⟩, fun c7 => ⟨⟨rfl, trivial⟩, fun r17 => ⟨fun c20 => ⟨⟨rfl, t, ht, et0⟩, fun r26 => ⟨fun c32 => ⟨fun c101 => ?_, fun c101 => absurd c101 c32⟩, fun c32 => ?_⟩, fun e26 x26 => no0 x26⟩, fun c20 => absurd (show (1 : Int32) = 0 from c20) (by decide)⟩, fun e17 x17 => no0 x17⟩⟩
      · have c7 : 12 ≤ hp.1 25 21 := c7
        obtain ⟨q1, q2⟩ := r0 hp c7
        exact ⟨rfl, congrArg some q1.symm, q2.symm⟩
      · have c7 : ¬ 12 ≤ hp.1 25 21 := c7
        have c32 : ¬ ff (setT 0 hp) = -1 := c32
        rw [ef] at c32
        obtain ⟨q1, q2⟩ := r1 hp t ht et c7 c32
        refine ⟨rfl, ?_, q2.symm⟩
        show some (-1 - ff (setT 0 hp)) = some (rv hp)
        rw [q1, ef]
      · have c7 : ¬ 12 ≤ hp.1 25 21 := c7
        have c32 : ff (setT 0 hp) = -1 := c32
        refine ⟨rfl, 0, ff (setT 0 hp), 0, rfl, rfl, by omega, c32, ?_, c7, ?_⟩
        · show setT 0 hp = sR (setT 0 hp) 42 (hp.1 42)
          rw [← setT_ne 0 hp (c := 42) (by omega), sR_self]
        · rw [hct, ← ef]; exact c32)
    (fun as hp hl h pc P hq L hp' hL _ => by
      obtain ⟨rfl, ⟨t, ht, et⟩, n, hn, en⟩ := ct0_s h
      have hct : cN (hp.1 25 19) = t := by rw [et, cN_nI (by omega)]
      have hcr : cN (hp.1 25 21) = n := by rw [en, cN_nI (by omega)]
      obtain ⟨rfl, rfl⟩ := at1 hq
      obtain ⟨i, w, x, rfl, ex, hi, ew, ehp, h12, hau⟩ := hL
      have hi : i ≤ cN (hp.1 25 19) := hi
      have ehp : hp' = sR (setT 0 hp) 42 (cpS (hp.1 40) (hp.1 42) (cN (hp.1 25 21)) i) := ehp
      have hau : auF (hp.1 40) (cN (hp.1 25 19)) 0 (0, 0) = -1 := hau
      rw [hct] at hi hau
      rw [hcr] at ehp
      have hr : n < 12 := by
        apply Classical.byContradiction
        intro q
        apply h12
        rw [en]
        exact (nI_leI (a := 12) (by omega) (by omega)).mpr (by omega)
      have hx := nx ex (by omega)
      have v19 : hp'.1 25 19 = nI t := by rw [ehp, sR_ne (by omega), setT_25 _ _ (by omega)]; exact et
      have v21 : hp'.1 25 21 = nI n := by rw [ehp, sR_ne (by omega), setT_25 _ _ (by omega)]; exact en
      have v40 : hp'.1 40 = hp.1 40 := by rw [ehp, sR_ne (by omega), setT_ne _ _ (by omega)]
      refine ⟨fun c42 => ⟨?_, ⟨fun c101 => absurd ew c101, fun c101 => ?_⟩⟩, fun c42 => ⟨?_, ⟨?_, ?_⟩⟩⟩
      · exact inx v21 hr (by omega)
      · have c42 : hp'.1 25 19 ≤ x := c42
        rw [v19] at c42
        have := cge ex (n := t) rfl (by omega) (by omega) c42
        have hi2 : i = t := by omega
        obtain ⟨q1, q2⟩ := r2 hp t n ht et en hr hau
        refine ⟨rfl, ?_, ?_⟩
        · show some (hp'.1 25 21 + 1 - 1) = some (rv hp)
          rw [q1, v21, en]
        · show setA (setA (setA hp' 41 (hp'.1 25 21).toNatClampNeg (hp'.1 25 19)) 25 21 (hp'.1 25 21 + 1)) 25 19 0 = sg hp
          rw [q2, v21, v19, nIc (by omega), ehp, hi2]
          unfold mRl1
          rw [et, en]
      · have c42 : ¬ hp'.1 25 19 ≤ x := c42
        rw [v19] at c42
        have hlt := clt ex (n := t) rfl (by omega) (by omega) c42
        exact inx ex (by omega) (by omega)
      · have c42 : ¬ hp'.1 25 19 ≤ x := c42
        rw [v19] at c42
        have hlt := clt ex (n := t) rfl (by omega) (by omega) c42
        have eix : 40 * hp'.1 25 21 + x = nI (40 * n + i) := by rw [v21, ex, show (40 : Int32) = nI 40 from rfl, pk_mul, nI_add]
        exact inx eix (by omega) (by omega)
      · have c42 : ¬ hp'.1 25 19 ≤ x := c42
        rw [v19] at c42
        have hlt := clt ex (n := t) rfl (by omega) (by omega) c42
        have eix : 40 * hp'.1 25 21 + x = nI (40 * n + i) := by rw [v21, ex, show (40 : Int32) = nI 40 from rfl, pk_mul, nI_add]
        refine ⟨rfl, ⟨i + 1, w, _, rfl, inc1 ex, by rw [hct]; omega, ew, ?_, h12, by rw [hct]; exact hau⟩, ?_⟩
        · show (mm_up hp'.1 42 (40 * hp'.1 25 21 + x).toNatClampNeg (hp'.1 40 x.toNatClampNeg), hp'.2) = _
          rw [eix, nIc (by omega), v40, hx, ehp, up_sR, hcr]
          rfl
        · show 100 - (x + 1).toNatClampNeg < 100 - x.toNatClampNeg
          rw [inc1 ex, hx, nIc (by omega)]; omega)
def fRlM (hp : mm_Hp) : Int32 × mm_Hp := if 12 ≤ hp.1 25 21 then (0, setT 1 hp) else if auF (hp.1 40) (cN (hp.1 25 19)) 0 (0, 0) = -1 then (hp.1 25 21 + 1 - 1, mRl1 hp (cN (hp.1 25 21)) (cN (hp.1 25 19))) else (-1 - auF (hp.1 40) (cN (hp.1 25 19)) 0 (0, 0), mRl0 hp)
def sM_rule : mm_Ct := ct0 25 1 rlP (fun _ => 0) (fun hp => (fRlM hp).1) (fun hp => (fRlM hp).2)
theorem M_M_rule {E : En} (hE : EOk E) : Mt E yM_rule cM_rule 3 (some .int) 6 sM_rule :=
  M_M_rule_g hE fFa (M_M_fault hE) (fun hp t ht et => by unfold fFa; rw [et, cN_nI (by omega)]) (fun hp => (fRlM hp).1) (fun hp => (fRlM hp).2)
    (fun hp h => by unfold fRlM; rw [if_pos h]; exact ⟨rfl, rfl⟩)
    (fun hp t ht et h h2 => by
      have hct : cN (hp.1 25 19) = t := by rw [et, cN_nI (by omega)]
      unfold fRlM; rw [if_neg h, hct, if_neg h2]; exact ⟨rfl, rfl⟩)
    (fun hp t r ht et er hr h2 => by
      have hct : cN (hp.1 25 19) = t := by rw [et, cN_nI (by omega)]
      have hcr : cN (hp.1 25 21) = r := by rw [er, cN_nI (by omega)]
      have h12 : ¬ 12 ≤ hp.1 25 21 := by
        rw [er]; intro q
        have := (nI_leI (a := 12) (by omega) (by omega)).mp q
        omega
      unfold fRlM; rw [if_neg h12, hct, hcr, if_pos h2]; exact ⟨rfl, rfl⟩)
/-! type -/
def sgR (hp : mm_Hp) (r : Nat) : Nat → Int32 := fun i => hp.1 42 (40 * r + i)
def lnR (hp : mm_Hp) (r : Nat) : Nat := cN (hp.1 41 r)
def evR (hp : mm_Hp) (c : Int32) (r : Nat) : Int32 × Int32 × Int32 := evF (fun k v => fMh c k v hp) (sgR hp r) (lnR hp r)
def fTyF (hp : mm_Hp) (c : Int32) : Nat → Nat → Int32
  | 0, _ => -1
  | n + 1, r => if (evR hp c r).1 = 0 then fTyF hp c n (r + 1) else (evR hp c r).2.2
def tyP (hp : mm_Hp) : Prop := mdOk hp ∧ ∃ n, n ≤ 12 ∧ hp.1 25 21 = nI n ∧ ∀ r, r < n → ∃ l, l ≤ 40 ∧ hp.1 41 r = nI l
def msTy (pc : Nat) (L : mm_Loc) : Nat := cond (Nat.beq pc 18) ((100 - msv 2 L) * 1000 + 999) ((100 - msv 2 L) * 1000 + (900 - msv 6 L))
def iTy (hp : mm_Hp) (c : Int32) (n : Nat) (pc : Nat) : Option (mm_Loc → mm_Hp → Prop) :=
  cond (Nat.beq pc 18) (some (fun L hp' => ∃ (r : Nat) (x : Int32) (o3 o4 o5 o6 o7 : Option Value), L = [some (.ref 25), some (.int c), some (.int x), o3, o4, o5, o6, o7] ∧ x = nI r ∧ r ≤ n ∧ fTyF hp c n 0 = fTyF hp c (n - r) r ∧ hp' = setT 0 hp ∧ fGo (fIc c hp) 1 1 = 0))
  (cond (Nat.beq pc 40) (some (fun L hp' => ∃ (r i : Nat) (x a k v y : Int32) (o7 : Option Value), L = [some (.ref 25), some (.int c), some (.int x), some (.int a), some (.int k), some (.int v), some (.int y), o7] ∧ x = nI r ∧ r < n ∧ y = nI (40 * r + i) ∧ i ≤ lnR hp r ∧ (a, k, v) = evF (fun k v => fMh c k v hp) (sgR hp r) i ∧ fTyF hp c n 0 = fTyF hp c (n - r) r ∧ hp' = setT 0 hp ∧ fGo (fIc c hp) 1 1 = 0)) none)
theorem ty_m {r y : Nat} : (100 - r) * 1000 + (900 - y) < (100 - r) * 1000 + 999 := by omega
theorem ty_n {r y : Nat} (hr : r < 100) : (100 - (r + 1)) * 1000 + 999 < (100 - r) * 1000 + (900 - y) := by omega
theorem ty_y {r y : Nat} (hy : y < 900) : (100 - r) * 1000 + (900 - (y + 1)) < (100 - r) * 1000 + (900 - y) := by omega
theorem fMh_T (c k v w : Int32) (hp : mm_Hp) : fMh c k v (setT w hp) = fMh c k v hp := by
  unfold fMh
  rw [setT_ne w hp (by omega), setT_ne w hp (by omega), setT_ne w hp (by omega), setT_ne w hp (by omega)]
theorem M_M_type_g {E : En} (hE : EOk E) (rv : Int32 → mm_Hp → Int32) (sg : Int32 → mm_Hp → mm_Hp) (r1 : ∀ c n hp, n ≤ 12 → hp.1 25 21 = nI n → fGo (fIc c hp) 1 1 = 0 → rv c hp = fTyF hp c n 0) (r0 : ∀ c hp, ¬ fGo (fIc c hp) 1 1 = 0 → rv c hp = 0) (s1 : ∀ c hp, sg c hp = setT (fGo (fIc c hp) 1 1) hp) :
    Mt E yM_type cM_type 8 (some .int) 6 (ct1 25 1 (fun _ hp => tyP hp) (fun _ _ => 0) rv sg) :=
  met (n := 60) (tab := tM_type) (cals := [(214, sM_isCoin), (206, sM_goes), (324, sM_holds), (197, sM_within)]) hE flM_ok pfM_ok csM_ok rfl (by decide) kM_type rfl (cf_v 107 (lM_107 (M_M_isCoin hE) (by decide) ct1_t rfl) (cf_v 103 (lM_103 (M_M_goes hE) (by decide) ct3_t rfl) (cf_v 162 (lM_162 (M_M_holds hE) (by decide) ct3_t rfl) (cf_s 98 (lM_98 (M_M_within hE) (by decide) rfl) cf_nil)))) (rt_i rfl) ct1_c (Nat.le_of_ble_eq_true rfl) rfl
    (fun as hp pc => iTy hp (as1 as) (cN (hp.1 25 21)) pc) (fun pc L _ => msTy pc L)
    (fun as hp hl h => by
      obtain ⟨c, rfl, hP⟩ := ct1_s h
      refine ⟨⟨rfl, trivial⟩, fun r3 => ⟨⟨rfl, trivial⟩, fun r8 => ⟨fun c11 => ?_, fun c11 => ⟨rfl, ?_, ?_⟩⟩, fun e8 x8 => no0 x8⟩, fun e3 x3 => no0 x3⟩
      · have c11 : fGo (fIc c hp) 1 1 = 0 := gt0 c11
        refine ⟨rfl, 0, _, _, _, _, _, _, rfl, rfl, by omega, rfl, ?_, c11⟩
        show setT (fGo (fIc c hp) 1 1) hp = setT 0 hp
        rw [c11]
      · have c11 : ¬ fGo (fIc c hp) 1 1 = 0 := gf0 c11
        exact congrArg some (r0 c hp c11).symm
      · exact (s1 c hp).symm)
    (fun as hp hl h pc P hq L hp' hL _ => by
      obtain ⟨c, rfl, hmd, n, hn, en, hln⟩ := ct1_s h
      have hct : cN (hp.1 25 21) = n := by rw [en, cN_nI (by omega)]
      have es : setT 0 hp = sg c hp → True := fun _ => trivial
      subst hct
      have sok : fGo (fIc c hp) 1 1 = 0 → setT 0 hp = sg c hp := fun q => by rw [s1, q]
      unfold iTy at hq
      rcases atc hq with ⟨rfl, rfl⟩ | hq
      · obtain ⟨r, x, o3, o4, o5, o6, o7, rfl, ex, hr, hf, ehp, hg⟩ := hL
        have v21 : hp'.1 25 21 = nI (cN (hp.1 25 21)) := by rw [ehp, setT_25 _ _ (by omega)]; exact en
        have hx := nx ex (by omega)
        refine ⟨fun c23 => ⟨rfl, ?_, ehp.trans (sok hg)⟩, fun c23 => ?_⟩
        · have c23 : hp'.1 25 21 ≤ x := c23
          rw [v21] at c23
          have := cge ex (n := cN (hp.1 25 21)) rfl (by omega) (by omega) c23
          have hr2 : r = cN (hp.1 25 21) := by omega
          show some (-1 : Int32) = some (rv c hp)
          rw [r1 c _ hp hn en hg]
          have hf : fTyF hp c (cN (hp.1 25 21)) 0 = fTyF hp c (cN (hp.1 25 21) - r) r := hf
          rw [hf, hr2, Nat.sub_self]
          rfl
        · have c23 : ¬ hp'.1 25 21 ≤ x := c23
          rw [v21] at c23
          have hlt := clt ex (n := cN (hp.1 25 21)) rfl (by omega) (by omega) c23
          refine ⟨rfl, ⟨r, 0, x, 1, 0, 0, 40 * x, _, rfl, ex, hlt, ?_, by omega, rfl, hf, ehp, hg⟩, ?_⟩
          · rw [ex, show (40 : Int32) = nI 40 from rfl, pk_mul]
            rfl
          · show (100 - x.toNatClampNeg) * 1000 + (900 - (40 * x).toNatClampNeg) < (100 - x.toNatClampNeg) * 1000 + 999
            exact ty_m
      obtain ⟨rfl, rfl⟩ := at1 hq
      obtain ⟨r, i, x, a, k, v, y, o7, rfl, ex, hr, ey, hi, hev, hf, ehp, hg⟩ := hL
      have hev : (a, k, v) = evF (fun k v => fMh c k v hp) (sgR hp r) i := hev
      have hx := nx ex (by omega)
      obtain ⟨l, hl40, el⟩ := hln r hr
      have hlr : lnR hp r = l := by unfold lnR; rw [el, cN_nI (by omega)]
      have hi : i ≤ l := by rw [← hlr]; exact hi
      have v41 : hp'.1 41 x.toNatClampNeg = nI l := by rw [ehp, setT_ne _ _ (by omega), hx, el]
      have hy := nx ey (by omega)
      have e40 : 40 * x + hp'.1 41 x.toNatClampNeg = nI (40 * r + l) := by rw [v41, ex, show (40 : Int32) = nI 40 from rfl, pk_mul, nI_add]
      have hms : (100 - x.toNatClampNeg) * 1000 + (900 - (y + 1).toNatClampNeg) < (100 - x.toNatClampNeg) * 1000 + (900 - y.toNatClampNeg) := by
        rw [inc1 ey, hy, nIc (by omega)]; exact ty_y (by omega)
      refine ⟨inx ex (by omega) (by omega), ⟨fun c53 => ?_, fun c53 => ?_⟩⟩
      · have c53 : 40 * x + hp'.1 41 x.toNatClampNeg ≤ y := c53
        rw [e40] at c53
        have := cge ey (n := 40 * r + l) rfl (by omega) (by omega) c53
        have hil : i = l := by omega
        have hE : evR hp c r = (a, k, v) := by unfold evR; rw [hlr, ← hil]; exact hev.symm
        have hstep : fTyF hp c (cN (hp.1 25 21) - r) r = if a = 0 then fTyF hp c (cN (hp.1 25 21) - (r + 1)) (r + 1) else v := by
          rw [show cN (hp.1 25 21) - r = (cN (hp.1 25 21) - (r + 1)) + 1 by omega]
          show (if (evR hp c r).1 = 0 then fTyF hp c (cN (hp.1 25 21) - (r + 1)) (r + 1) else (evR hp c r).2.2) = _
          rw [hE]
        refine ⟨fun c154 => ?_, fun c154 => ⟨rfl, ?_, ehp.trans (sok hg)⟩⟩
        · have c154 : a = 0 := c154
          rw [if_pos c154] at hstep
          refine ⟨rfl, ⟨r + 1, _, _, _, _, _, _, rfl, inc1 ex, by omega, hf.trans hstep, ehp, hg⟩, ?_⟩
          show (100 - (x + 1).toNatClampNeg) * 1000 + 999 < (100 - x.toNatClampNeg) * 1000 + (900 - y.toNatClampNeg)
          rw [inc1 ex, hx, nIc (by omega)]
          exact ty_n (by omega)
        · have c154 : ¬ a = 0 := c154
          rw [if_neg c154] at hstep
          show some v = some (rv c hp)
          rw [r1 c _ hp hn en hg]
          exact congrArg some (hf.trans hstep).symm
      · have c53 : ¬ 40 * x + hp'.1 41 x.toNatClampNeg ≤ y := c53
        rw [e40] at c53
        have hlt := clt ey (n := 40 * r + l) rfl (by omega) (by omega) c53
        have hsg : hp'.1 42 y.toNatClampNeg = sgR hp r i := by rw [ehp, setT_ne _ _ (by omega), hy]; rfl
        obtain ⟨m, hm, em⟩ := hmd.1
        obtain ⟨kc, hkc, ekc⟩ := ic_in (by omega) em (fGo_0.mp hg).1
        have ekc : c = nI kc := ekc
        have hkc2 : kc < mszN hp := by unfold mszN; rw [em, nIc (by omega)]; exact hkc
        have v29 : isB (hp'.1 29 c.toNatClampNeg) := by rw [ehp, setT_ne _ _ (by omega), ekc, nIc (by omega)]; exact (hmd.2 kc hkc2).1
        have pH : vp_in c 80 ∧ isB (hp'.1 29 c.toNatClampNeg) := ⟨inx ekc (by omega) (by omega), v29⟩
        have eH : fMh c k v hp' = fMh c k v hp := by rw [ehp, fMh_T]
        have hHB : isB (fMh c k v hp) := by rw [← eH]; exact fMh_B v29
        have st : ∀ (a' k' v' : Int32) (o7 : Option Value), evS (fun k v => fMh c k v hp) (sgR hp r i) (a, k, v) = (a', k', v') → ∃ (r2 i2 : Nat) (x2 a2 k2 v2 y2 : Int32) (o72 : Option Value), [some (Value.ref 25), some (.int c), some (.int x), some (.int a'), some (.int k'), some (.int v'), some (.int (y + 1)), o7] = [some (Value.ref 25), some (.int c), some (.int x2), some (.int a2), some (.int k2), some (.int v2), some (.int y2), o72] ∧ x2 = nI r2 ∧ r2 < cN (hp.1 25 21) ∧ y2 = nI (40 * r2 + i2) ∧ i2 ≤ lnR hp r2 ∧ (a2, k2, v2) = evF (fun k v => fMh c k v hp) (sgR hp r2) i2 ∧ fTyF hp c (cN (hp.1 25 21)) 0 = fTyF hp c (cN (hp.1 25 21) - r2) r2 ∧ hp' = setT 0 hp ∧ fGo (fIc c hp) 1 1 = 0 := fun a' k' v' o7 hv => ⟨r, i + 1, _, _, _, _, _, _, rfl, ex, hr, inc1 ey, by rw [hlr]; omega, by rw [evF_s, ← hev, hv], hf, ehp, hg⟩
        have sep : ∀ (hs : sgR hp r i = 44 ∨ sgR hp r i = 58), (a = 0 → evS (fun k v => fMh c k v hp) (sgR hp r i) (a, k, v) = (0, 0, 0)) ∧ (¬ a = 0 → k = 0 → evS (fun k v => fMh c k v hp) (sgR hp r i) (a, k, v) = (1, 0, 0)) ∧ (¬ a = 0 → ¬ k = 0 → fMh c k v hp = 0 → evS (fun k v => fMh c k v hp) (sgR hp r i) (a, k, v) = (0, 0, 0)) ∧ (¬ a = 0 → ¬ k = 0 → ¬ fMh c k v hp = 0 → evS (fun k v => fMh c k v hp) (sgR hp r i) (a, k, v) = (1, 0, 0)) := fun hs => by
          unfold evS
          rw [if_pos hs]
          refine ⟨fun q => ?_, fun q1 q2 => ?_, fun q1 q2 q3 => ?_, fun q1 q2 q3 => ?_⟩
          · show ((if a = 0 then (0 : Int32) else if k = 0 then 1 else fMh c k v hp), (0 : Int32), (0 : Int32)) = _
            rw [if_pos q]
          · show ((if a = 0 then (0 : Int32) else if k = 0 then 1 else fMh c k v hp), (0 : Int32), (0 : Int32)) = _
            rw [if_neg q1, if_pos q2]
          · show ((if a = 0 then (0 : Int32) else if k = 0 then 1 else fMh c k v hp), (0 : Int32), (0 : Int32)) = _
            rw [if_neg q1, if_neg q2, q3]
          · show ((if a = 0 then (0 : Int32) else if k = 0 then 1 else fMh c k v hp), (0 : Int32), (0 : Int32)) = _
            rw [if_neg q1, if_neg q2]
            rw [hHB.elim (fun q => absurd q q3) id]
        refine ⟨inx ey (by omega) (by omega), ⟨fun c69 => ?_, fun c69 => ⟨fun c76 => ?_, fun c76 => ?_⟩⟩⟩
        · have c69 : hp'.1 42 y.toNatClampNeg = 44 := c69
          rw [hsg] at c69
          obtain ⟨s1', s2, s3, s4⟩ := sep (Or.inl c69)
          refine ⟨fun c80 => ⟨rfl, st 0 0 0 _ (s1' c80), hms⟩, fun c80 => ⟨fun c85 => ⟨rfl, st 1 0 0 _ (s2 c80 c85), hms⟩, fun c85 => ⟨⟨rfl, pH⟩, fun r94 => ⟨fun c97 => ?_, fun c97 => ?_⟩, fun e94 x94 => no0 x94⟩⟩⟩
          · have c97 : fMh c k v hp' = 0 := c97
            rw [eH] at c97
            exact ⟨rfl, st 0 0 0 _ (s3 c80 c85 c97), hms⟩
          · have c97 : ¬ fMh c k v hp' = 0 := c97
            rw [eH] at c97
            exact ⟨rfl, st 1 0 0 _ (s4 c80 c85 c97), hms⟩
        · have c69 : ¬ hp'.1 42 y.toNatClampNeg = 44 := c69
          have c76 : ¬ hp'.1 42 y.toNatClampNeg = 58 := c76
          rw [hsg] at c69 c76
          have hn2 : ¬ (sgR hp r i = 44 ∨ sgR hp r i = 58) := fun q => q.elim c69 c76
          refine ⟨trivial, fun r121 => ⟨fun c124 => ?_, fun c124 => ?_⟩, fun e121 x121 => no0 x121⟩
          · have c124 : fWi (hp'.1 42 y.toNatClampNeg) 48 57 = 0 := c124
            rw [hsg] at c124
            have c124 : fDig (sgR hp r i) = 0 := c124
            exact ⟨rfl, st a (hp'.1 42 y.toNatClampNeg) v _ (by rw [hsg]; unfold evS; rw [if_neg hn2, if_pos c124]), hms⟩
          · have c124 : ¬ fWi (hp'.1 42 y.toNatClampNeg) 48 57 = 0 := c124
            rw [hsg] at c124
            have c124 : ¬ fDig (sgR hp r i) = 0 := c124
            exact ⟨rfl, st a k (10 * v + hp'.1 42 y.toNatClampNeg - 48) _ (by rw [hsg]; unfold evS; rw [if_neg hn2, if_neg c124]), hms⟩
        · have c76 : hp'.1 42 y.toNatClampNeg = 58 := c76
          rw [hsg] at c76
          obtain ⟨s1', s2, s3, s4⟩ := sep (Or.inr c76)
          refine ⟨fun c80 => ⟨rfl, st 0 0 0 _ (s1' c80), hms⟩, fun c80 => ⟨fun c85 => ⟨rfl, st 1 0 0 _ (s2 c80 c85), hms⟩, fun c85 => ⟨⟨rfl, pH⟩, fun r94 => ⟨fun c97 => ?_, fun c97 => ?_⟩, fun e94 x94 => no0 x94⟩⟩⟩
          · have c97 : fMh c k v hp' = 0 := c97
            rw [eH] at c97
            exact ⟨rfl, st 0 0 0 _ (s3 c80 c85 c97), hms⟩
          · have c97 : ¬ fMh c k v hp' = 0 := c97
            rw [eH] at c97
            exact ⟨rfl, st 1 0 0 _ (s4 c80 c85 c97), hms⟩)
def rTyM (c : Int32) (hp : mm_Hp) : Int32 := if fGo (fIc c hp) 1 1 = 0 then fTyF hp c (cN (hp.1 25 21)) 0 else 0
def hTyM (c : Int32) (hp : mm_Hp) : mm_Hp := setT (fGo (fIc c hp) 1 1) hp
def sM_type : mm_Ct := ct1 25 1 (fun _ hp => tyP hp) (fun _ _ => 0) rTyM hTyM
theorem M_M_type {E : En} (hE : EOk E) : Mt E yM_type cM_type 8 (some .int) 6 sM_type :=
  M_M_type_g hE rTyM hTyM (fun c n hp hn en h => by unfold rTyM; rw [if_pos h, en, cN_nI (by omega)]) (fun c hp h => by unfold rTyM; rw [if_neg h]) (fun c hp => rfl)
/-! count -/
def gCt (w : Int32) : Int32 := fGo (fWi w 0 5) 1 1
def iCt (hp : mm_Hp) (w : Int32) (pc : Nat) : Option (mm_Loc → mm_Hp → Prop) := cond (Nat.beq pc 21) (some (fun L hp' => ∃ (k : Nat) (a y : Int32), L = [some (.ref 25), some (.int w), some (.int a), some (.int y)] ∧ y = nI k ∧ k ≤ mszN hp ∧ a = cnt1 (hp.1 29) k ∧ hp' = setT 0 hp ∧ gCt w = 0)) none
def fCtM (w : Int32) (hp : mm_Hp) : Int32 := if w.toInt = 0 then hp.1 25 1 else if w.toInt = 1 then cnt1 (hp.1 29) (mszN hp) else if w.toInt = 2 then hp.1 25 7 else if w.toInt = 3 then hp.1 25 17 else if w.toInt = 4 then hp.1 25 21 else hp.1 25 19
theorem M_M_count_g {E : En} (hE : EOk E) (rv : Int32 → mm_Hp → Int32) (sg : Int32 → mm_Hp → mm_Hp) (r1 : ∀ w hp, gCt w = 0 → rv w hp = fCtM w hp) (r0 : ∀ w hp, ¬ gCt w = 0 → rv w hp = 0) (s1 : ∀ w hp, sg w hp = setT (gCt w) hp) :
    Mt E yM_count cM_count 4 (some .int) 6 (ct1 25 1 (fun _ hp => mdOk hp) (fun _ _ => 0) rv sg) :=
  met (n := 60) (tab := tM_count) (cals := [(197, sM_within), (206, sM_goes)]) hE flM_ok pfM_ok csM_ok rfl (by decide) kM_count rfl (cf_s 98 (lM_98 (M_M_within hE) (by decide) rfl) (cf_v 103 (lM_103 (M_M_goes hE) (by decide) ct3_t rfl) cf_nil)) (rt_i rfl) ct1_c (Nat.le_of_ble_eq_true rfl) rfl
    (fun as hp pc => iCt hp (as1 as) pc) (fun pc L _ => 100 - msv 3 L)
    (fun as hp hl h => by
      obtain ⟨w, rfl, hP⟩ := ct1_s h
      refine ⟨trivial, fun r4 => ⟨⟨rfl, trivial⟩, fun r9 => ⟨fun c12 => ?_, fun c12 => ⟨rfl, ?_, ?_⟩⟩, fun e9 x9 => no0 x9⟩, fun e4 x4 => no0 x4⟩
      · have c12 : gCt w = 0 := gt0 c12
        refine ⟨rfl, 0, _, _, rfl, rfl, by omega, rfl, ?_, c12⟩
        show setT (gCt w) hp = setT 0 hp
        rw [c12]
      · have c12 : ¬ gCt w = 0 := gf0 c12
        exact congrArg some (r0 w hp c12).symm
      · exact (s1 w hp).symm)
    (fun as hp hl h pc P hq L hp' hL _ => by
      obtain ⟨w, rfl, hP⟩ := ct1_s h
      obtain ⟨rfl, rfl⟩ := at1 hq
      obtain ⟨k, a, y, rfl, ey, hk, ea, ehp, hg⟩ := hL
      have hg : gCt w = 0 := hg
      have h80 := mszN_80 hP
      have esz : hp.1 25 1 = nI (mszN hp) := by obtain ⟨n, _, e, e2⟩ := mszE hP.1; rw [e2]; exact e
      have v25 : hp'.1 25 1 = nI (mszN hp) := by rw [ehp, setT_25 _ _ (by omega)]; exact esz
      have hy := nx ey (by omega)
      have er := r1 w hp hg
      have es : hp' = sg w hp := by rw [s1, hg]; exact ehp
      have hms : 100 - (y + 1).toNatClampNeg < 100 - y.toNatClampNeg → True := fun _ => trivial
      refine ⟨fun c26 => ?_, fun c26 => ⟨?_, ⟨fun c35 => ?_, fun c35 => ?_⟩⟩⟩
      · have c26 : hp'.1 25 1 ≤ y := c26
        rw [v25] at c26
        have := cge ey (n := mszN hp) rfl (by omega) (by omega) c26
        have hk2 : k = mszN hp := by omega
        subst hk2
        have w25 : ∀ j, j ≠ 0 → hp'.1 25 j = hp.1 25 j := fun j hj => by rw [ehp, setT_25 _ _ hj]
        unfold fCtM at er
        refine ⟨fun c53 => ⟨rfl, ?_, es⟩, fun c53 => ⟨rfl, ?_, es⟩, fun c53 => ⟨rfl, ?_, es⟩, fun c53 => ⟨rfl, ?_, es⟩, fun c53 => ⟨rfl, ?_, es⟩, fun c53 => ⟨rfl, ?_, es⟩, trivial⟩
        · have c53 : w.toInt < 0 ∨ 4 < w.toInt := c53
          show some (hp'.1 25 19) = some (rv w hp)
          rw [er, if_neg (by omega), if_neg (by omega), if_neg (by omega), if_neg (by omega), if_neg (by omega), w25 _ (by omega)]
        · have c53 : w.toInt = 0 := c53
          show some (hp'.1 25 1) = some (rv w hp)
          rw [er, if_pos c53, w25 _ (by omega)]
        · have c53 : w.toInt = 1 := c53
          show some a = some (rv w hp)
          rw [er, if_neg (by omega), if_pos c53, ea]
        · have c53 : w.toInt = 2 := c53
          show some (hp'.1 25 7) = some (rv w hp)
          rw [er, if_neg (by omega), if_neg (by omega), if_pos c53, w25 _ (by omega)]
        · have c53 : w.toInt = 3 := c53
          show some (hp'.1 25 17) = some (rv w hp)
          rw [er, if_neg (by omega), if_neg (by omega), if_neg (by omega), if_pos c53, w25 _ (by omega)]
        · have c53 : w.toInt = 4 := c53
          show some (hp'.1 25 21) = some (rv w hp)
          rw [er, if_neg (by omega), if_neg (by omega), if_neg (by omega), if_neg (by omega), if_pos c53, w25 _ (by omega)]
      · have c26 : ¬ hp'.1 25 1 ≤ y := c26
        rw [v25] at c26
        exact inx ey (by have := clt ey (n := mszN hp) rfl (by omega) (by omega) c26; omega) (by omega)
      · have c26 : ¬ hp'.1 25 1 ≤ y := c26
        rw [v25] at c26
        have hlt := clt ey (n := mszN hp) rfl (by omega) (by omega) c26
        have c35 : hp'.1 29 y.toNatClampNeg = 0 := c35
        rw [ehp, setT_ne _ _ (by omega), hy] at c35
        refine ⟨rfl, ⟨k + 1, a, _, rfl, inc1 ey, by omega, ?_, ehp, hg⟩, ?_⟩
        · rw [ea]
          exact (if_pos c35).symm
        · show 100 - (y + 1).toNatClampNeg < 100 - y.toNatClampNeg
          rw [inc1 ey, hy, nIc (by omega)]; omega
      · have c26 : ¬ hp'.1 25 1 ≤ y := c26
        rw [v25] at c26
        have hlt := clt ey (n := mszN hp) rfl (by omega) (by omega) c26
        have c35 : ¬ hp'.1 29 y.toNatClampNeg = 0 := c35
        rw [ehp, setT_ne _ _ (by omega), hy] at c35
        refine ⟨rfl, ⟨k + 1, a + 1, _, rfl, inc1 ey, by omega, ?_, ehp, hg⟩, ?_⟩
        · rw [ea]
          exact (if_neg c35).symm
        · show 100 - (y + 1).toNatClampNeg < 100 - y.toNatClampNeg
          rw [inc1 ey, hy, nIc (by omega)]; omega)
def rCtM (w : Int32) (hp : mm_Hp) : Int32 := if gCt w = 0 then fCtM w hp else 0
def hCtM (w : Int32) (hp : mm_Hp) : mm_Hp := setT (gCt w) hp
def sM_count : mm_Ct := ct1 25 1 (fun _ hp => mdOk hp) (fun _ _ => 0) rCtM hCtM
theorem M_M_count {E : En} (hE : EOk E) : Mt E yM_count cM_count 4 (some .int) 6 sM_count :=
  M_M_count_g hE rCtM hCtM (fun w hp h => by unfold rCtM; rw [if_pos h]) (fun w hp h => by unfold rCtM; rw [if_neg h]) (fun w hp => rfl)
