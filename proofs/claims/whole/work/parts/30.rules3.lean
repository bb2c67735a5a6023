/-! ===== DieGraphs$Rules: types ===== -/
def fHolds (k v c : Int32) (hp : mm_Hp) : Int32 := if k.toInt = 60 then (if v ≤ hp.1 7 c.toNatClampNeg then 0 else 1) else if k.toInt = 62 then (if hp.1 7 c.toNatClampNeg ≤ v then 0 else 1) else if k.toInt = 111 then (if hp.1 5 c.toNatClampNeg = v then 1 else 0) else if k.toInt = 114 then (if hp.1 6 c.toNatClampNeg - 16 = v then 1 else 0) else hp.1 11 c.toNatClampNeg
theorem M_R_holds_g {E : En} (hE : EOk E) (rv : Int32 → Int32 → Int32 → mm_Hp → Int32) (hrv : ∀ k v c hp, (k.toInt = 60 → rv k v c hp = (if v ≤ hp.1 7 c.toNatClampNeg then 0 else 1)) ∧ (¬ k.toInt = 60 → k.toInt = 62 → rv k v c hp = (if hp.1 7 c.toNatClampNeg ≤ v then 0 else 1)) ∧ (¬ k.toInt = 60 → ¬ k.toInt = 62 → k.toInt = 111 → rv k v c hp = (if hp.1 5 c.toNatClampNeg = v then 1 else 0)) ∧ (¬ k.toInt = 60 → ¬ k.toInt = 62 → ¬ k.toInt = 111 → k.toInt = 114 → rv k v c hp = (if hp.1 6 c.toNatClampNeg - 16 = v then 1 else 0)) ∧ (¬ k.toInt = 60 → ¬ k.toInt = 62 → ¬ k.toInt = 111 → ¬ k.toInt = 114 → rv k v c hp = hp.1 11 c.toNatClampNeg))
    (hrB : ∀ k v c hp, isB (hp.1 11 c.toNatClampNeg) → isB (rv k v c hp)) : Mt E yR_holds cR_holds 4 (some .boolean) 2 (ct3 4 1 (fun _ _ c hp => vp_in c 80 ∧ isB (hp.1 11 c.toNatClampNeg)) (fun _ _ _ _ => 0) rv (fun _ _ _ hp => hp)) :=
  metS (n := 60) (tab := tR_holds) (cals := [(152, sC_dieOf), (164, sC_milligramsOf), (172, sC_isDoubted)]) hE flR_ok pfR_ok csR_ok rfl (by decide) kR_holds rfl (cf_v 76 (lR_76 (M_C_dieOf hE) (by decide) ct2_t rfl) (cf_v 82 (lR_82 (M_C_milligramsOf hE) (by decide) ct1_t rfl) (cf_v 86 (lR_86 (M_C_isDoubted hE) (by decide) ct1_t rfl) cf_nil))) (rt_z3 (fun k v c hp hP => hrB k v c hp hP.2)) ct3_c (Nat.le_of_ble_eq_true rfl) rfl (fun as hp hl h => by
    obtain ⟨k, v, c, rfl, hP⟩ := ct3_s h
    obtain ⟨h1, h2, h3, h4, h5⟩ := hrv k v c hp
    refine ⟨fun q60 => ⟨⟨rfl, hP.1⟩, fun r90 => ⟨fun c94 => ⟨rfl, ?_, rfl⟩, fun c94 => ⟨rfl, ?_, rfl⟩⟩, fun e90 x90 => no0 x90⟩, fun n60 => ⟨fun q62 => ⟨⟨rfl, hP.1⟩, fun r108 => ⟨fun c112 => ⟨rfl, ?_, rfl⟩, fun c112 => ⟨rfl, ?_, rfl⟩⟩, fun e108 x108 => no0 x108⟩, fun n62 => ⟨fun q111 => ⟨⟨rfl, hP.1⟩, fun r50 => ⟨fun c54 => ⟨rfl, ?_, rfl⟩, fun c54 => ⟨rfl, ?_, rfl⟩⟩, fun e50 x50 => no0 x50⟩, fun n111 => ⟨fun q114 => ⟨⟨rfl, hP.1⟩, fun r69 => ⟨fun c76 => ⟨rfl, ?_, rfl⟩, fun c76 => ⟨rfl, ?_, rfl⟩⟩, fun e69 x69 => no0 x69⟩, fun n114 => ⟨⟨rfl, hP⟩, fun r126 => ⟨rfl, ?_, rfl⟩, fun e126 x126 => no0 x126⟩⟩⟩⟩⟩
    · exact congrArg some ((h1 q60).trans (if_pos c94)).symm
    · exact congrArg some ((h1 q60).trans (if_neg c94)).symm
    · exact congrArg some ((h2 n60 q62).trans (if_pos c112)).symm
    · exact congrArg some ((h2 n60 q62).trans (if_neg c112)).symm
    · exact congrArg some ((h3 n60 n62 q111).trans (if_neg (show ¬ hp.1 5 c.toNatClampNeg = v from c54))).symm
    · exact congrArg some ((h3 n60 n62 q111).trans (if_pos (show hp.1 5 c.toNatClampNeg = v from c54))).symm
    · exact congrArg some ((h4 n60 n62 n111 q114).trans (if_neg (show ¬ hp.1 6 c.toNatClampNeg - 16 = v from c76))).symm
    · exact congrArg some ((h4 n60 n62 n111 q114).trans (if_pos (show hp.1 6 c.toNatClampNeg - 16 = v from c76))).symm
    · exact congrArg some (h5 n60 n62 n111 n114).symm)
theorem fHolds_B {k v c : Int32} {hp : mm_Hp} (h : isB (hp.1 11 c.toNatClampNeg)) : isB (fHolds k v c hp) := by
  unfold fHolds
  split
  · exact isB_if
  · split
    · exact isB_if
    · split
      · exact isB_fi
      · split
        · exact isB_fi
        · exact h
def sR_holds : mm_Ct := ct3 4 1 (fun _ _ c hp => vp_in c 80 ∧ isB (hp.1 11 c.toNatClampNeg)) (fun _ _ _ _ => 0) fHolds (fun _ _ _ hp => hp)
theorem M_R_holds {E : En} (hE : EOk E) : Mt E yR_holds cR_holds 4 (some .boolean) 2 sR_holds :=
  M_R_holds_g hE fHolds (fun k v c hp => ⟨fun h => if_pos h, fun n1 h => (if_neg n1).trans (if_pos h), fun n1 n2 h => (if_neg n1).trans ((if_neg n2).trans (if_pos h)), fun n1 n2 n3 h => (if_neg n1).trans ((if_neg n2).trans ((if_neg n3).trans (if_pos h))), fun n1 n2 n3 n4 => (if_neg n1).trans ((if_neg n2).trans ((if_neg n3).trans (if_neg n4)))⟩) (fun k v c hp h => fHolds_B h)
/-- n conditions from a slot on -/
def fAllF (hp : mm_Hp) (c : Int32) : Nat → Nat → Int32
  | 0, _ => 1
  | n + 1, s => if fHolds (hp.1 21 s) (hp.1 22 s) c hp = 0 then 0 else fAllF hp c n (s + 1)
def cdN (hp : mm_Hp) (i : Nat) : Nat := (hp.1 23 i).toNatClampNeg
def fAll (i c : Int32) (hp : mm_Hp) : Int32 := fAllF hp c (cdN hp i.toNatClampNeg) (i.toNatClampNeg * 20)
theorem fAllF_B (hp : mm_Hp) (c : Int32) : ∀ n s, isB (fAllF hp c n s)
  | 0, _ => Or.inr rfl
  | n + 1, s => by
    show isB (if fHolds (hp.1 21 s) (hp.1 22 s) c hp = 0 then 0 else fAllF hp c n (s + 1))
    split
    · exact Or.inl rfl
    · exact fAllF_B hp c n (s + 1)
def coOk (c : Int32) (hp : mm_Hp) : Prop := vp_in c 80 ∧ isB (hp.1 11 c.toNatClampNeg)
theorem M_R_allHold_g {E : En} (hE : EOk E) (rv : Int32 → Int32 → mm_Hp → Int32) (hrv : ∀ i c n hp, i < 12 → n ≤ 20 → hp.1 23 i = nI n → rv (nI i) c hp = fAllF hp c n (i * 20)) (hrB : ∀ i c hp, isB (rv i c hp)) : Mt E yR_allHold cR_allHold 4 (some .boolean) 3 (ct2 4 1 (fun i c hp => coOk c hp ∧ ∃ k n, k < 12 ∧ n ≤ 20 ∧ i = nI k ∧ hp.1 23 k = nI n) (fun _ _ _ => 0) rv (fun _ _ hp => hp)) :=
  met (n := 60) (tab := tR_allHold) (cals := [(144, sR_holds)]) hE flR_ok pfR_ok csR_ok rfl (by decide) kR_allHold rfl (cf_v 72 (lR_72 (M_R_holds hE) (by decide) ct3_t rfl) cf_nil) (rt_z2 (fun i c hp _ => hrB i c hp)) ct2_c (Nat.le_of_ble_eq_true rfl) rfl
    (fun as hp pc => cond (Nat.beq pc 5) (some (fun L hp' => hp' = hp ∧ ∃ (c : Int32) (k n j : Nat) (x : Int32), as = [.ref 4, .int (nI k), .int c] ∧ k < 12 ∧ n ≤ 20 ∧ hp.1 23 k = nI n ∧ L = [some (.ref 4), some (.int (nI k)), some (.int c), some (.int x)] ∧ x = nI (k * 20 + j) ∧ j ≤ n ∧ fAllF hp c (n - j) (k * 20 + j) = fAllF hp c n (k * 20))) none) (fun _ L _ => msk 1000 3 L)
    (fun as hp hl h => by
      obtain ⟨i9, c, rfl, hc, k, n, hk, hn, rfl, en⟩ := ct2_s h
      refine ⟨rfl, rfl, c, k, n, 0, _, rfl, hk, hn, en, rfl, ?_, by omega, rfl⟩
      show nI k * 20 = nI (k * 20 + 0)
      rw [show (20 : Int32) = nI 20 from rfl, pk_mul]
      rfl)
    (fun as hp hl h pc P hq L hp' hL _ => by
      obtain ⟨i9, c9, rfl, hc, -⟩ := ct2_s h
      obtain ⟨rfl, rfl⟩ := at1 hq
      obtain ⟨rfl, c, k, n, j, x, heq, hk, hn, en, rfl, ex, hj, ee⟩ := hL
      simp only [List.cons.injEq, Value.int.injEq, and_true, true_and] at heq
      obtain ⟨rfl, rfl⟩ := heq
      have hx := nx ex (by omega)
      have hkk : (nI k).toNatClampNeg = k := nIc (by omega)
      have hlim : nI k * 20 + hp'.1 23 (nI k).toNatClampNeg = nI (k * 20 + n) := by
        rw [hkk, en, show (20 : Int32) = nI 20 from rfl, pk_mul, nI_add]
      have hret := hrv k c9 n hp' hk hn en
      refine ⟨nIv hk (by omega), ⟨fun c17 => ⟨rfl, ?_, rfl⟩, fun c17 => ?_⟩⟩
      · have c17 : nI k * 20 + hp'.1 23 (nI k).toNatClampNeg ≤ x := c17
        have := cge ex hlim (by omega) (by omega) c17
        have hj2 : j = n := by omega
        subst hj2
        show some 1 = some (rv (nI k) c9 hp')
        rw [hret, ← ee, Nat.sub_self]
        rfl
      · have c17 : ¬ nI k * 20 + hp'.1 23 (nI k).toNatClampNeg ≤ x := c17
        have hlt := clt ex hlim (by omega) (by omega) c17
        have hin : vp_in x 240 := inx ex (by omega) (by omega)
        have hu : fAllF hp' c9 (n - j) (k * 20 + j) = if fHolds (hp'.1 21 (k * 20 + j)) (hp'.1 22 (k * 20 + j)) c9 hp' = 0 then 0 else fAllF hp' c9 (n - (j + 1)) (k * 20 + (j + 1)) := by
          rw [show n - j = (n - (j + 1)) + 1 by omega]; rfl
        refine ⟨hin, ⟨hin, ⟨⟨rfl, hc⟩, fun r34 => ⟨fun c37 => ⟨rfl, ⟨rfl, c9, k, n, j + 1, x + 1, rfl, hk, hn, en, rfl, inc1 ex, by omega, ?_⟩, dec1 ex (by omega) (by omega)⟩, fun c37 => ⟨rfl, ?_, rfl⟩⟩, fun e34 x34 => no0 x34⟩⟩⟩
        · have c37 : ¬ fHolds (hp'.1 21 x.toNatClampNeg) (hp'.1 22 x.toNatClampNeg) c9 hp' = 0 := c37
          rw [hx] at c37
          rw [← ee, hu, if_neg c37]
        · have c37 : fHolds (hp'.1 21 x.toNatClampNeg) (hp'.1 22 x.toNatClampNeg) c9 hp' = 0 := c37
          rw [hx] at c37
          show some 0 = some (rv (nI k) c9 hp')
          rw [hret, ← ee, hu, if_pos c37])
def sR_allHold : mm_Ct := ct2 4 1 (fun i c hp => coOk c hp ∧ ∃ k n, k < 12 ∧ n ≤ 20 ∧ i = nI k ∧ hp.1 23 k = nI n) (fun _ _ _ => 0) fAll (fun _ _ hp => hp)
theorem M_R_allHold {E : En} (hE : EOk E) : Mt E yR_allHold cR_allHold 4 (some .boolean) 3 sR_allHold :=
  M_R_allHold_g hE fAll (fun i c n hp hi hn en => by
    unfold fAll cdN
    rw [nIc (by omega), en, nIc (by omega)]) (fun i c hp => fAllF_B hp c _ _)
/-- n rules looked at, from r on -/
def fTypF (hp : mm_Hp) (c : Int32) : Nat → Nat → Int32
  | 0, _ => -1
  | n + 1, r => if fAll (nI r) c hp = 0 then fTypF hp c n (r + 1) else hp.1 24 r
def rlN (hp : mm_Hp) : Nat := (hp.1 4 8).toNatClampNeg
def rlOk (hp : mm_Hp) : Prop := (∃ n, n ≤ 12 ∧ hp.1 4 8 = nI n) ∧ ∀ r, r < rlN hp → ∃ n, n ≤ 20 ∧ hp.1 23 r = nI n
theorem rlE {hp : mm_Hp} (h : rlOk hp) : ∃ n, n ≤ 12 ∧ hp.1 4 8 = nI n ∧ rlN hp = n := by
  obtain ⟨n, h1, h2⟩ := h.1
  exact ⟨n, h1, h2, by unfold rlN; rw [h2]; exact nIc (by omega)⟩
theorem M_R_typeOf_g {E : En} (hE : EOk E) (rv : Int32 → mm_Hp → Int32) (hrv : ∀ c n hp, n ≤ 12 → hp.1 4 8 = nI n → rv c hp = fTypF hp c n 0) : Mt E yR_typeOf cR_typeOf 3 (some .int) 4 (ct1 4 1 (fun c hp => coOk c hp ∧ rlOk hp) (fun _ _ => 0) rv (fun _ hp => hp)) :=
  met (n := 60) (tab := tR_typeOf) (cals := [(96, sR_allHold)]) hE flR_ok pfR_ok csR_ok rfl (by decide) kR_typeOf rfl (cf_v 48 (lR_48 (M_R_allHold hE) (by decide) ct2_t rfl) cf_nil) (rt_i rfl) ct1_c (Nat.le_of_ble_eq_true rfl) rfl
    (fun as hp pc => cond (Nat.beq pc 2) (some (fun L hp' => hp' = hp ∧ ∃ (c : Int32) (n i : Nat) (x : Int32), as = [.ref 4, .int c] ∧ n ≤ 12 ∧ hp.1 4 8 = nI n ∧ L = [some (.ref 4), some (.int c), some (.int x)] ∧ x = nI i ∧ i ≤ n ∧ fTypF hp c (n - i) i = fTypF hp c n 0)) none) (fun _ L _ => msk 100 2 L)
    (fun as hp hl h => by
      obtain ⟨c, rfl, hc, hr⟩ := ct1_s h
      obtain ⟨n, hn, en, -⟩ := rlE hr
      exact ⟨rfl, rfl, c, n, 0, _, rfl, hn, en, rfl, rfl, by omega, rfl⟩)
    (fun as hp hl h pc P hq L hp' hL _ => by
      obtain ⟨c9, rfl, hc, hr⟩ := ct1_s h
      obtain ⟨rfl, rfl⟩ := at1 hq
      obtain ⟨rfl, c, n, i, x, heq, hn, en, rfl, ex, hi, ee⟩ := hL
      cases heq
      have hret := hrv c9 n hp' hn en
      have hx := nx ex (by omega)
      have hrn : rlN hp' = n := by unfold rlN; rw [en]; exact nIc (by omega)
      refine ⟨fun c7 => ⟨rfl, ?_, rfl⟩, fun c7 => ?_⟩
      · have := cge ex en (by omega) (by omega) c7
        have hi2 : i = n := by omega
        subst hi2
        show some (-1) = some (rv c9 hp')
        rw [hret, ← ee, Nat.sub_self]
        rfl
      · have hlt := clt ex en (by omega) (by omega) c7
        obtain ⟨m, hm, em⟩ := hr.2 i (by omega)
        have hu : fTypF hp' c9 (n - i) i = if fAll (nI i) c9 hp' = 0 then fTypF hp' c9 (n - (i + 1)) (i + 1) else hp'.1 24 i := by
          rw [show n - i = (n - (i + 1)) + 1 by omega]; rfl
        refine ⟨⟨rfl, hc, i, m, by omega, hm, ex, em⟩, fun r13 => ⟨fun c16 => ⟨rfl, ⟨rfl, c9, n, i + 1, x + 1, rfl, hn, en, rfl, inc1 ex, by omega, ?_⟩, dec1 ex (by omega) (by omega)⟩, fun c16 => ⟨inx ex (by omega) (by omega), ⟨rfl, ?_, rfl⟩⟩⟩, fun e13 x13 => no0 x13⟩
        · have c16 : fAll x c9 hp' = 0 := c16
          rw [ex] at c16
          rw [← ee, hu, if_pos c16]
        · have c16 : ¬ fAll x c9 hp' = 0 := c16
          rw [ex] at c16
          show some (hp'.1 24 x.toNatClampNeg) = some (rv c9 hp')
          rw [hret, ← ee, hu, if_neg c16, hx])
def fType (c : Int32) (hp : mm_Hp) : Int32 := fTypF hp c (rlN hp) 0
def sR_typeOf : mm_Ct := ct1 4 1 (fun c hp => coOk c hp ∧ rlOk hp) (fun _ _ => 0) fType (fun _ hp => hp)
theorem M_R_typeOf {E : En} (hE : EOk E) : Mt E yR_typeOf cR_typeOf 3 (some .int) 4 sR_typeOf :=
  M_R_typeOf_g hE fType (fun c n hp hn en => by
    unfold fType rlN
    rw [en, nIc (by omega)])
