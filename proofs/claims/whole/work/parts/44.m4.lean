/-! ===== the reference: ringOf, tellRing, may ===== -/
def bRz (St : Nat → Nat → Bool) (t d b : Nat) : Nat := if St t d = true then (if b ≤ dst St t d + 1 then b else dst St t d + 1) else b
def rsz (St : Nat → Nat → Bool) (t : Nat) : Nat := lp (bRz St t) 32 99
theorem rz_99 (St : Nat → Nat → Bool) (t : Nat) : ∀ i, lp (bRz St t) i 99 ≤ 99
  | 0 => Nat.le_refl _
  | i + 1 => by
    have ih := rz_99 St t i
    show bRz St t i (lp (bRz St t) i 99) ≤ 99
    generalize lp (bRz St t) i 99 = b at ih
    unfold bRz
    split
    · split
      · exact ih
      · omega
    · exact ih
theorem vp32 {t : Int32} {n : Nat} (hn : n ≤ 4000) (h : vp_in t n) : ∃ t', t' < n ∧ t = nI t' := by
  rcases pk_ix t (n := n) (by omega) with h3 | h3 | ⟨j, hj, rfl⟩
  · exact absurd (Or.inl h3) h
  · refine absurd (Or.inr ?_) h
    rw [Int32.le_iff_toInt_le] at h3
    have h4 : (nI n).toInt = n := nI_toInt (by omega)
    rw [h4] at h3
    show n ≤ t.toInt.toNat
    omega
  · exact ⟨j, hj, rfl⟩
theorem M_M_ringOf_g {E : En} (hE : EOk E) (rv : Int32 → mm_Hp → Int32) (hrv : ∀ t hp, t < 32 → rv (nI t) hp = nI (lp (bRz (stM (hp.1 33)) t) 32 99)) : Mt E yM_ringOf cM_ringOf 4 (some .int) 2 (ct1 25 1 (fun t _ => vp_in t 32) (fun _ _ => 0) rv hMe) :=
  met (n := 60) (tab := tM_ringOf) (cals := [(160, sM_measure)]) hE flM_ok pfM_ok csM_ok rfl (by decide) kM_ringOf rfl (cf_v 80 (lM_80 (M_M_measure hE) (by decide) ct1_t rfl) cf_nil) (rt_i rfl) ct1_c (Nat.le_of_ble_eq_true rfl) rfl
    (fun as hp pc => cond (Nat.beq pc 10) (some (fun L hp' => ∃ (t i : Nat) (x b y : Int32), t < 32 ∧ x = nI t ∧ as = [.ref 25, .int x] ∧ hp' = sR hp 35 (mrow (hp.1 33) (hp.1 35) t) ∧ L = [some (.ref 25), some (.int x), some (.int b), some (.int y)] ∧ y = nI i ∧ i ≤ 32 ∧ b = nI (lp (bRz (stM (hp.1 33)) t) i 99))) none) (fun _ L _ => msk 100 3 L)
    (fun as hp hl h => by
      obtain ⟨x, rfl, hP⟩ := ct1_s h
      obtain ⟨t, ht, ex⟩ := vp32 (by omega) hP
      refine ⟨⟨rfl, hP⟩, fun r2 => ⟨rfl, t, 0, x, _, _, ht, ex, rfl, ?_, rfl, rfl, by omega, rfl⟩, fun e2 x2 => no0 x2⟩
      show hMe x hp = _
      unfold hMe
      rw [ex, nIc (by omega)])
    (fun as hp hl h pc P hq L hp' hL _ => by
      obtain ⟨x, rfl, hP⟩ := ct1_s h
      obtain ⟨rfl, rfl⟩ := at1 hq
      obtain ⟨t, i, x', b, y, ht, ex, heq, ehp, rfl, ey, hi, eb⟩ := hL
      cases heq
      refine ⟨fun c13 => ⟨rfl, ?_, ?_⟩, fun c13 => ?_⟩
      · have := cge ey (n := 32) rfl (by omega) (by omega) c13
        have hi2 : i = 32 := by omega
        subst hi2
        have := hrv t hp ht
        rw [← ex] at this
        exact congrArg some (eb.trans this.symm)
      · show hp' = hMe x hp
        unfold hMe
        rw [ehp, ex, nIc (by omega)]
      · have hlt := clt ey (n := 32) rfl (by omega) (by omega) c13
        have hy := nx ey (by omega)
        have hix : 32 * x + y = nI (32 * t + i) := by rw [ex, ey, show (32 : Int32) = nI 32 from rfl, pk_mul, nI_add]
        have v33 : hp'.1 33 (32 * x + y).toNatClampNeg = hp.1 33 (32 * t + i) := by rw [ehp, sR_ne (by omega), hix, nIc (by omega)]
        have v35 : hp'.1 35 y.toNatClampNeg = nI (dst (stM (hp.1 33)) t i) := by
          rw [ehp, sR_at, hy]; exact if_pos (by omega)
        have d99 := dst_99 (stM (hp.1 33)) t i
        have b99 := rz_99 (stM (hp.1 33)) t i
        have hstep : lp (bRz (stM (hp.1 33)) t) (i + 1) 99 = bRz (stM (hp.1 33)) t i (lp (bRz (stM (hp.1 33)) t) i 99) := rfl
        refine ⟨?_, ⟨fun c27 => ⟨rfl, ⟨t, i + 1, x, _, _, ht, ex, rfl, ehp, rfl, inc1 ey, by omega, ?_⟩, dec1 ey (by omega) (by omega)⟩, fun c27 => ⟨inx ey (by omega) (by omega), ⟨fun c39 => ⟨rfl, ⟨t, i + 1, x, _, _, ht, ex, rfl, ehp, rfl, inc1 ey, by omega, ?_⟩, dec1 ey (by omega) (by omega)⟩, fun c39 => ⟨inx ey (by omega) (by omega), ⟨rfl, ⟨t, i + 1, x, _, _, ht, ex, rfl, ehp, rfl, inc1 ey, by omega, ?_⟩, dec1 ey (by omega) (by omega)⟩⟩⟩⟩⟩⟩
        · show vp_in (32 * x + y) 1024
          rw [hix]; exact nIv (by omega) (by omega)
        · have c27 : hp'.1 33 (32 * x + y).toNatClampNeg = 0 := c27
          rw [v33] at c27
          have hf : ¬ stM (hp.1 33) t i = true := by unfold stM; rw [decide_eq_true c27]; decide
          rw [hstep]; unfold bRz; rw [if_neg hf]; exact eb
        · have c27 : ¬ hp'.1 33 (32 * x + y).toNatClampNeg = 0 := c27
          have c39 : b ≤ hp'.1 35 y.toNatClampNeg + 1 := c39
          rw [v33] at c27
          rw [v35, eb, nI_1] at c39
          have c39 := (nI_leI (by omega) (by omega)).mp c39
          have hf : stM (hp.1 33) t i = true := by unfold stM; rw [decide_eq_false c27]; rfl
          rw [hstep]; unfold bRz; rw [if_pos hf]; unfold bRz at c39; rw [if_pos c39]; exact eb
        · have c27 : ¬ hp'.1 33 (32 * x + y).toNatClampNeg = 0 := c27
          have c39 : ¬ b ≤ hp'.1 35 y.toNatClampNeg + 1 := c39
          rw [v33] at c27
          rw [v35, eb, nI_1] at c39
          have c39 : ¬ _ := fun q => c39 ((nI_leI (by omega) (by omega)).mpr q)
          have hf : stM (hp.1 33) t i = true := by unfold stM; rw [decide_eq_false c27]; rfl
          show hp'.1 35 y.toNatClampNeg + 1 = _
          rw [hstep]; unfold bRz; rw [if_pos hf]; unfold bRz at c39; rw [if_neg c39, v35, nI_1])
def rRo (t : Int32) (hp : mm_Hp) : Int32 := nI (rsz (stM (hp.1 33)) t.toNatClampNeg)
def sM_ringOf : mm_Ct := ct1 25 1 (fun t _ => vp_in t 32) (fun _ _ => 0) rRo hMe
theorem M_M_ringOf {E : En} (hE : EOk E) : Mt E yM_ringOf cM_ringOf 4 (some .int) 2 sM_ringOf :=
  M_M_ringOf_g hE rRo (fun t hp ht => by unfold rRo rsz; rw [nIc (by omega)])
/-- size and first die of the ring that is told: the shortest, then the lowest die -/
def bBf (z : Nat → Nat) (d : Nat) (q : Nat × Nat) : Nat × Nat := if z d < q.1 then (z d, d) else q
def qBf (z : Nat → Nat) (i : Nat) : Nat × Nat := lp (bBf z) i (99, 0)
theorem qBf_ok (z : Nat → Nat) : ∀ i, i ≤ 32 → (qBf z i).1 ≤ 99 ∧ (qBf z i).2 < 32
  | 0, _ => ⟨Nat.le_refl _, by show (0 : Nat) < 32; omega⟩
  | i + 1, h => by
    have ih := qBf_ok z i (by omega)
    show (bBf z i (qBf z i)).1 ≤ 99 ∧ (bBf z i (qBf z i)).2 < 32
    unfold bBf
    split
    · refine ⟨?_, ?_⟩
      · show z i ≤ 99
        omega
      · show i < 32
        omega
    · exact ih
/-- the ring's die at place k: the lowest that a step leads to and that comes home in time; 32: none -/
def rgM (St : Nat → Nat → Bool) (b t : Nat) : Nat → Nat
  | 0 => t
  | k + 1 => fnd (fun d => St (rgM St b t k) d && decide (dst St t d = b - (k + 1))) 32 0
def rrow (St : Nat → Nat → Bool) (b t k : Nat) (g : Nat → Int32) : Nat → Int32 := lp (fun j g => upd g j (nI (rgM St b t j))) k g
def tlF (g ring obj far : Nat → Int32) : Nat × Nat := qBf (rsz (stM g)) 32
def tellP (g : Nat → Int32) : Prop := 1 ≤ (qBf (rsz (stM g)) 32).1 ∧ (qBf (rsz (stM g)) 32).1 ≤ 32 ∧ ∀ k, k < (qBf (rsz (stM g)) 32).1 → rgM (stM g) (qBf (rsz (stM g)) 32).1 (qBf (rsz (stM g)) 32).2 k < 32
theorem mrow_far {g f far : Nat → Int32} (t : Nat) (h : ∀ d, 32 ≤ d → f d = far d) : mrow g f t = mrow g far t := by
  funext d
  unfold mrow
  split
  · rfl
  · exact h d (by omega)
def hTl3 (hp : mm_Hp) (b t k : Nat) : mm_Hp := sR (sR (sR hp 35 (mrow (hp.1 33) (hp.1 35) t)) 25 (upd (hp.1 25) 13 (nI b))) 36 (rrow (stM (hp.1 33)) b t k (hp.1 36))
def nxI (p : Nat → Bool) (i : Nat) : Int32 := if fnd p (32 - i) i = 32 then -1 else nI (fnd p (32 - i) i)
theorem nxI_step (p : Nat → Bool) {i : Nat} (hi : i < 32) : nxI p i = if p i = true then nI i else nxI p (i + 1) := by
  unfold nxI
  rw [show 32 - i = (32 - (i + 1)) + 1 by omega]
  show (if (if p i = true then i else fnd p (32 - (i + 1)) (i + 1)) = 32 then (-1 : Int32) else nI (if p i = true then i else fnd p (32 - (i + 1)) (i + 1))) = _
  by_cases h : p i = true
  · rw [if_pos h, if_pos h, if_neg (by omega)]
  · rw [if_neg h, if_neg h]
theorem nxI_32 (p : Nat → Bool) : nxI p 32 = -1 := rfl
theorem nxI_0 (p : Nat → Bool) (h : fnd p 32 0 < 32) : nxI p 0 = nI (fnd p 32 0) := if_neg (by show ¬ fnd p 32 0 = 32; omega)
def msw (k : Nat) (L : mm_Loc) : Nat := match L[k]? with
  | some (some (.int y)) => (y + 1).toNatClampNeg
  | _ => 0
def msTl (pc : Nat) (L : mm_Loc) : Nat := cond (Nat.beq pc 7) (2000000 + (100 - msv 3 L)) (cond (Nat.beq pc 70) (1000000 + (100 - msv 3 L) * 100 + 99) (1000000 + (100 - msv 3 L) * 100 + msw 5 L))
theorem rrow_at (St : Nat → Nat → Bool) (b t : Nat) (g : Nat → Int32) : ∀ (k j : Nat), j < k → rrow St b t k g j = nI (rgM St b t j)
  | 0, j, h => absurd h (by omega)
  | k + 1, j, h => by
    show upd (rrow St b t k g) k (nI (rgM St b t k)) j = _
    unfold upd
    split
    · rename_i q; rw [q]
    · exact rrow_at St b t g k j (by omega)
def hTl (hp : mm_Hp) : mm_Hp := hTl3 hp (qBf (rsz (stM (hp.1 33))) 32).1 (qBf (rsz (stM (hp.1 33))) 32).2 (qBf (rsz (stM (hp.1 33))) 32).1
def sM_tellRing : mm_Ct := ct0 25 0 (fun hp => tellP (hp.1 33)) (fun _ => 0) (fun _ => 0) hTl
def hMay (hp : mm_Hp) : mm_Hp := if rSe hp = 0 then hTl (hSe hp) else hSe hp
def myOk (hp : mm_Hp) : Prop := msOk hp ∧ (rSe hp = 0 → tellP ((hSe hp).1 33))
