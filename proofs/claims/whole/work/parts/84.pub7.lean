/-! ===== the reference: dies ===== -/
/-- sure coins with die d, among the first n -/
def owP (du di : Nat → Int32) (d k : Nat) : Bool := decide (du k = 0) && decide (di k = nI d)
def ow (du di : Nat → Int32) (n d : Nat) : Nat := cnP (owP du di d) n
def bMa (du di : Nat → Int32) (k : Nat) (g : Nat → Int32) : Nat → Int32 := if du k = 0 then upd g (cN (di k)) (g (cN (di k)) + 1) else g
def cU (du : Nat → Int32) (k : Nat) (a : Int32) : Int32 := if du k = 0 then a + 1 else a
def diOk (di : Nat → Int32) (n : Nat) : Prop := ∀ k, k < n → ∃ e, e < 32 ∧ di k = nI e
theorem bMa_at {du di g : Nat → Int32} : ∀ {n : Nat}, diOk di n → ∀ d, d < 32 → lp (bMa du di) n (zeroR 32 g) d = nI (ow du di n d)
  | 0, _, d, hd => zeroR_at 32 g hd
  | n + 1, h, d, hd => by
    have ih := bMa_at (du := du) (di := di) (g := g) (n := n) (fun k hk => h k (by omega))
    obtain ⟨e, he, ee⟩ := h n (by omega)
    show bMa du di n (lp (bMa du di) n (zeroR 32 g)) d = nI (if owP du di d n = true then ow du di n d + 1 else ow du di n d)
    generalize lp (bMa du di) n (zeroR 32 g) = r at ih
    unfold bMa owP
    by_cases q : du n = 0
    · rw [if_pos q, ee, cN_nI (by omega), decide_eq_true q, Bool.true_and]
      by_cases c : d = e
      · rw [c, pk_us, ih e he, nI_1, decide_eq_true rfl, if_pos rfl]
      · rw [pk_un c, ih d hd, decide_eq_false (fun r => c ((nI_eq (by omega) (by omega)).mp r).symm), if_neg (by decide)]
    · rw [if_neg q, ih d hd, decide_eq_false q, Bool.false_and, if_neg (by decide)]
theorem bMa_ge {du di g : Nat → Int32} : ∀ {n : Nat}, diOk di n → ∀ d, 32 ≤ d → lp (bMa du di) n (zeroR 32 g) d = g d
  | 0, _, d, hd => zeroR_ge 32 g hd
  | n + 1, h, d, hd => by
    have ih := bMa_ge (du := du) (di := di) (g := g) (n := n) (fun k hk => h k (by omega)) d hd
    obtain ⟨e, he, ee⟩ := h n (by omega)
    show bMa du di n (lp (bMa du di) n (zeroR 32 g)) d = g d
    unfold bMa
    split
    · rw [ee, cN_nI (by omega), pk_un (by omega)]; exact ih
    · exact ih
theorem sumN_ind {f : Nat → Nat} {e : Nat} : ∀ {m : Nat}, e < m → sumN (fun d => if d = e then f d + 1 else f d) m = sumN f m + 1
  | 0, h => absurd h (Nat.not_lt_zero e)
  | m + 1, h => by
    show sumN (fun d => if d = e then f d + 1 else f d) m + (if m = e then f m + 1 else f m) = sumN f m + f m + 1
    by_cases c : m = e
    · rw [if_pos c]
      have : sumN (fun d => if d = e then f d + 1 else f d) m = sumN f m := sumN_same (fun k hk => if_neg (by omega))
      omega
    · rw [if_neg c, sumN_ind (f := f) (e := e) (m := m) (by omega)]
      omega
/-- the dies' coins make the coins -/
theorem ow_sum {du di : Nat → Int32} : ∀ {n : Nat}, diOk di n → sumN (ow du di n) 32 = cnP (fun k => decide (du k = 0)) n
  | 0, _ => by
    have : sumN (ow du di 0) 32 = sumN (fun _ => 0) 32 := sumN_same (fun k _ => rfl)
    rw [this]
    rfl
  | n + 1, h => by
    have ih := ow_sum (du := du) (di := di) (n := n) (fun k hk => h k (by omega))
    obtain ⟨e, he, ee⟩ := h n (by omega)
    rw [cnP_s]
    by_cases q : du n = 0
    · rw [decide_eq_true q, if_pos rfl, ← ih, ← sumN_ind (f := ow du di n) (e := e) he]
      refine sumN_same (fun d hd => ?_)
      show (if owP du di d n = true then ow du di n d + 1 else ow du di n d) = _
      unfold owP
      rw [decide_eq_true q, Bool.true_and, ee]
      by_cases c : d = e
      · rw [if_pos c, c, decide_eq_true rfl, if_pos rfl]
      · rw [if_neg c, decide_eq_false (fun r => c ((nI_eq (by omega) (by omega)).mp r).symm), if_neg (by decide)]
    · rw [decide_eq_false q, if_neg (by decide), ← ih]
      refine sumN_same (fun d hd => ?_)
      show (if owP du di d n = true then ow du di n d + 1 else ow du di n d) = _
      unfold owP
      rw [decide_eq_false q, Bool.false_and, if_neg (by decide)]
theorem one_sum {f : Nat → Nat} : ∀ {m : Nat}, cnP (fun d => decide (f d = 1)) m ≤ sumN f m
  | 0 => Nat.le_refl _
  | m + 1 => by
    have ih := one_sum (f := f) (m := m)
    rw [cnP_s]
    show _ ≤ sumN f m + f m
    by_cases q : f m = 1
    · rw [decide_eq_true q, if_pos rfl]; omega
    · rw [decide_eq_false q, if_neg (by decide)]; omega
theorem cU_n (du : Nat → Int32) (n : Nat) : lp (cU du) n 0 = nI (cnP (fun k => decide (du k = 0)) n) := by
  refine cnP_int (fun k a hk => ?_)
  unfold cU
  by_cases q : du k = 0
  · rw [if_pos q, decide_eq_true q, if_pos rfl]
  · rw [if_neg q, decide_eq_false q, if_neg (by decide)]
def bDf (g : Nat → Int32) (d : Nat) (a : Int32) : Int32 := if g d ≤ 0 then a else a + 1
def bSi (g : Nat → Int32) (d : Nat) (a : Int32) : Int32 := if g d = 1 then a + 1 else a
theorem df_n {g : Nat → Int32} {f : Nat → Nat} {m : Nat} (h : ∀ d, d < m → f d ≤ 4000 ∧ g d = nI (f d)) : lp (bDf g) m 0 = nI (cnP (fun d => decide (0 < f d)) m) ∧ lp (bSi g) m 0 = nI (cnP (fun d => decide (f d = 1)) m) := by
  refine ⟨cnP_int (fun k a hk => ?_), cnP_int (fun k a hk => ?_)⟩
  · obtain ⟨h1, h2⟩ := h k hk
    unfold bDf
    rw [h2]
    have e : nI (f k) ≤ 0 ↔ f k ≤ 0 := nI_leI (b := 0) (by omega) (by omega)
    by_cases q : 0 < f k
    · rw [if_neg (fun r => by have := e.mp r; omega), decide_eq_true q, if_pos rfl]
    · rw [if_pos (e.mpr (by omega)), decide_eq_false q, if_neg (by decide)]
  · obtain ⟨h1, h2⟩ := h k hk
    unfold bSi
    rw [h2]
    have e : nI (f k) = 1 ↔ f k = 1 := nI_eq (b := 1) (by omega) (by omega)
    by_cases q : f k = 1
    · rw [if_pos (e.mpr q), decide_eq_true q, if_pos rfl]
    · rw [if_neg (fun r => q (e.mp r)), decide_eq_false q, if_neg (by decide)]
theorem ow_le (du di : Nat → Int32) (n d : Nat) : ow du di n d ≤ n := cnP_le _ n
/-- the fraction: different times struck, struck without the single ones -/
def dsQ (du di : Nat → Int32) (n : Nat) : Nat × Nat := if cnP (fun k => decide (du k = 0)) n = 0 then (0, 1) else (cnP (fun d => decide (0 < ow du di n d)) 32 * cnP (fun k => decide (du k = 0)) n, cnP (fun k => decide (du k = 0)) n - cnP (fun d => decide (ow du di n d = 1)) 32)
def gDs (s p : Int32) : Int32 := fGo (if fIs s = 0 then 0 else if fIs p = 0 then 0 else 1) 1 1
def diS (hp : mm_Hp) (s : Int32) : Nat → Int32 := fun k => if s = 0 then hp.1 26 k else hp.1 27 k
theorem diS_ok {hp : mm_Hp} (h : mdOk hp) (s : Int32) : diOk (diS hp s) (mszN hp) := fun k hk => by
  obtain ⟨_, ⟨f, hf, ef⟩, b, hb1, hb2, eb⟩ := h.2 k hk
  unfold diS
  split
  · exact ⟨f, by omega, ef⟩
  · exact ⟨b, hb2, eb⟩
def mDs (hp : mm_Hp) (s : Int32) : mm_Hp := sR (setT 0 hp) 38 (lp (bMa (hp.1 29) (diS hp s)) (mszN hp) (zeroR 32 (hp.1 38)))
def frS (q : Nat × Nat) (hp : mm_Hp) : mm_Hp := setA (setA hp 25 24 (nI (q.1 / Nat.gcd q.1 q.2))) 25 25 (nI (q.2 / Nat.gcd q.1 q.2))
theorem frS_r (q : Nat × Nat) (hp : mm_Hp) (p : Int32) : (if p = 0 then (frS q hp).1 25 24 else (frS q hp).1 25 25) = frR q.1 q.2 p := by
  unfold frS frR
  rw [setA_at, pk_us, pk_un (by omega), setA_at, pk_us]
theorem frS_ls {A B : Nat} (hA : A ≤ 4000) (hB : B ≤ 4000) (hp : mm_Hp) : lsN (nI A) (nI B) hp = frS (A, B) hp := by
  unfold lsN frS
  rw [nIc hA, nIc hB]
  rfl
def msDs (pc : Nat) (L : mm_Loc) : Nat := cond (Nat.beq pc 32) (3000 + (100 - msv 3 L)) (cond (Nat.beq pc 56) (2000 + (100 - msv 4 L)) (1000 + (100 - msv 6 L)))
def iDs (hp : mm_Hp) (s p : Int32) (pc : Nat) : Option (mm_Loc → mm_Hp → Prop) :=
  cond (Nat.beq pc 32) (some (fun L hp' => ∃ (i : Nat) (x : Int32) (o4 o5 o6 : Option Value), L = [some (.ref 25), some (.int s), some (.int p), some (.int x), o4, o5, o6] ∧ x = nI i ∧ i ≤ 32 ∧ hp' = sR (setT 0 hp) 38 (zeroR i (hp.1 38)) ∧ gDs s p = 0))
  (cond (Nat.beq pc 56) (some (fun L hp' => ∃ (k : Nat) (x y : Int32) (o5 o6 : Option Value), L = [some (.ref 25), some (.int s), some (.int p), some (.int x), some (.int y), o5, o6] ∧ y = nI k ∧ k ≤ mszN hp ∧ x = lp (cU (hp.1 29)) k 0 ∧ hp' = sR (setT 0 hp) 38 (lp (bMa (hp.1 29) (diS hp s)) k (zeroR 32 (hp.1 38))) ∧ gDs s p = 0))
  (cond (Nat.beq pc 109) (some (fun L hp' => ∃ (i : Nat) (x a b y : Int32), L = [some (.ref 25), some (.int s), some (.int p), some (.int x), some (.int a), some (.int b), some (.int y)] ∧ y = nI i ∧ i ≤ 32 ∧ x = lp (cU (hp.1 29)) (mszN hp) 0 ∧ a = lp (bDf ((mDs hp s).1 38)) i 0 ∧ b = lp (bSi ((mDs hp s).1 38)) i 0 ∧ hp' = mDs hp s ∧ gDs s p = 0)) none))
theorem mDs_38 (hp : mm_Hp) (s : Int32) : (mDs hp s).1 38 = lp (bMa (hp.1 29) (diS hp s)) (mszN hp) (zeroR 32 (hp.1 38)) := by unfold mDs; rw [sR_at]
theorem M_M_dies_g {E : En} (hE : EOk E) (rv : Int32 → Int32 → mm_Hp → Int32) (sg : Int32 → Int32 → mm_Hp → mm_Hp) (r1 : ∀ s p hp q, gDs s p = 0 → dsQ (hp.1 29) (diS hp s) (mszN hp) = q → rv s p hp = frR q.1 q.2 p ∧ sg s p hp = frS q (mDs hp s)) (r0 : ∀ s p hp, ¬ gDs s p = 0 → rv s p hp = 0 ∧ sg s p hp = setT (gDs s p) hp) :
    Mt E yM_dies cM_dies 7 (some .int) 6 (ct2 25 1 (fun _ _ hp => mdOk hp) (fun _ _ _ => 0) rv sg) :=
  met (n := 60) (tab := tM_dies) (cals := [(229, sM_isSide), (206, sM_goes), (138, sM_dieOf), (258, sM_lessen), (266, sM_told)]) hE flM_ok pfM_ok csM_ok rfl (by decide) kM_dies rfl (cf_s 114 (lM_114 (M_M_isSide hE) (by decide) rfl) (cf_v 103 (lM_103 (M_M_goes hE) (by decide) ct3_t rfl) (cf_v 69 (lM_69 (M_M_dieOf hE) (by decide) ct2_t rfl) (cf_v 129 (lM_129 (M_M_lessen hE) (by decide) ct2_t rfl) (cf_v 133 (lM_133 (M_M_told hE) (by decide) ct1_t rfl) cf_nil))))) (rt_i rfl) ct2_c (Nat.le_of_ble_eq_true rfl) rfl
    (fun as hp pc => iDs hp (as2 as).1 (as2 as).2 pc) (fun pc L _ => msDs pc L)
    (fun as hp hl2 h => by
      obtain ⟨s, p, rfl, hP⟩ := ct2_s h
      have fin : ∀ X Y Z : Int32, gDs s p = fGo X Y Z → (¬ (if fGo X Y Z = 0 then (1 : Int32) else 0) = 0 → setT (fGo X Y Z) hp = sR (setT 0 hp) 38 (zeroR 0 (hp.1 38)) ∧ gDs s p = 0) ∧ ((if fGo X Y Z = 0 then (1 : Int32) else 0) = 0 → some (0 : Int32) = some (rv s p hp) ∧ setT (fGo X Y Z) hp = sg s p hp) := fun X Y Z hg => by
        obtain ⟨a1, a2⟩ := go2 hg hp
        refine ⟨fun q => ⟨?_, (a1 q).1⟩, fun q => ⟨by rw [(r0 s p hp (a2 q).1).1], ?_⟩⟩
        · rw [(a1 q).2]
          show setT 0 hp = sR (setT 0 hp) 38 (hp.1 38)
          rw [← setT_ne 0 hp (c := 38) (by omega), sR_self]
        · rw [(r0 s p hp (a2 q).1).2]
          exact (a2 q).2
      refine ⟨trivial, fun r2 => ⟨fun c5 => ⟨⟨rfl, trivial⟩, fun r22 => ⟨fun c25 => ?_, fun c25 => ?_⟩, fun e22 x22 => no0 x22⟩, fun c5 => ⟨trivial, fun r9 => ⟨fun c12 => ⟨⟨rfl, trivial⟩, fun r22 => ⟨fun c25 => ?_, fun c25 => ?_⟩, fun e22 x22 => no0 x22⟩, fun c12 => ⟨⟨rfl, trivial⟩, fun r22 => ⟨fun c25 => ?_, fun c25 => ?_⟩, fun e22 x22 => no0 x22⟩⟩, fun e9 x9 => no0 x9⟩⟩, fun e2 x2 => no0 x2⟩
      all_goals try (have c5 : fIs s = 0 := c5)
      all_goals try (have c5 : ¬ fIs s = 0 := c5)
      all_goals try (have c12 : fIs p = 0 := c12)
      all_goals try (have c12 : ¬ fIs p = 0 := c12)
      · obtain ⟨q1, q2⟩ := (fin 0 1 1 (by unfold gDs; rw [if_pos c5])).1 c25
        exact ⟨rfl, 0, _, _, _, _, rfl, rfl, by omega, q1, q2⟩
      · obtain ⟨q1, q2⟩ := (fin 0 1 1 (by unfold gDs; rw [if_pos c5])).2 c25
        exact ⟨rfl, q1, q2⟩
      · obtain ⟨q1, q2⟩ := (fin 0 1 1 (by unfold gDs; rw [if_neg c5, if_pos c12])).1 c25
        exact ⟨rfl, 0, _, _, _, _, rfl, rfl, by omega, q1, q2⟩
      · obtain ⟨q1, q2⟩ := (fin 0 1 1 (by unfold gDs; rw [if_neg c5, if_pos c12])).2 c25
        exact ⟨rfl, q1, q2⟩
      · obtain ⟨q1, q2⟩ := (fin 1 1 1 (by unfold gDs; rw [if_neg c5, if_neg c12])).1 c25
        exact ⟨rfl, 0, _, _, _, _, rfl, rfl, by omega, q1, q2⟩
      · obtain ⟨q1, q2⟩ := (fin 1 1 1 (by unfold gDs; rw [if_neg c5, if_neg c12])).2 c25
        exact ⟨rfl, q1, q2⟩)
    (fun as hp hl2 h pc P hq L hp' hL _ => by
      obtain ⟨s, p, rfl, hP⟩ := ct2_s h
      have h80 := mszN_80 hP
      have esz : hp.1 25 1 = nI (mszN hp) := by obtain ⟨n, _, e, e2⟩ := mszE hP.1; rw [e2]; exact e
      unfold iDs at hq
      rcases atc hq with ⟨rfl, rfl⟩ | hq
      · obtain ⟨i, x, o4, o5, o6, rfl, ex, hi, ehp, hg⟩ := hL
        have hx := nx ex (by omega)
        refine ⟨fun c35 => ?_, fun c35 => ⟨?_, ?_⟩⟩
        · have := cge ex (n := 32) rfl (by omega) (by omega) c35
          have hi2 : i = 32 := by omega
          subst hi2
          refine ⟨rfl, ⟨0, 0, 0, _, _, rfl, rfl, by omega, rfl, ehp, hg⟩, ?_⟩
          show 2000 + (100 - (0 : Int32).toNatClampNeg) < 3000 + (100 - x.toNatClampNeg)
          omega
        · exact inx ex (clt ex (n := 32) rfl (by omega) (by omega) c35) (by omega)
        · have hlt := clt ex (n := 32) rfl (by omega) (by omega) c35
          refine ⟨rfl, ⟨i + 1, _, _, _, _, rfl, inc1 ex, by omega, ?_, hg⟩, ?_⟩
          · show (mm_up hp'.1 38 x.toNatClampNeg 0, hp'.2) = _
            rw [ehp, up_sR, hx]
            rfl
          · show 3000 + (100 - (x + 1).toNatClampNeg) < 3000 + (100 - x.toNatClampNeg)
            rw [inc1 ex, hx, nIc (by omega)]; omega
      rcases atc hq with ⟨rfl, rfl⟩ | hq
      · obtain ⟨k, x, y, o5, o6, rfl, ey, hk, ex, ehp, hg⟩ := hL
        have hy := nx ey (by omega)
        have v25 : hp'.1 25 1 = nI (mszN hp) := by rw [ehp, sR_ne (by omega), setT_25 _ _ (by omega)]; exact esz
        have w26 : hp'.1 26 = hp.1 26 := by rw [ehp, sR_ne (by omega), setT_ne _ _ (by omega)]
        have w27 : hp'.1 27 = hp.1 27 := by rw [ehp, sR_ne (by omega), setT_ne _ _ (by omega)]
        have w29 : hp'.1 29 = hp.1 29 := by rw [ehp, sR_ne (by omega), setT_ne _ _ (by omega)]
        have ehp' : hp' = sR (setT 0 hp) 38 (lp (bMa (hp.1 29) (diS hp s)) k (zeroR 32 (hp.1 38))) := ehp
        have ex : x = lp (cU (hp.1 29)) k 0 := ex
        refine ⟨fun c62 => ?_, fun c62 => ?_⟩
        · have c62 : hp'.1 25 1 ≤ y := c62
          rw [v25] at c62
          have := cge ey (n := mszN hp) rfl (by omega) (by omega) c62
          have hk2 : k = mszN hp := by omega
          subst hk2
          refine ⟨rfl, ⟨0, x, 0, 0, 0, rfl, rfl, by omega, ex, rfl, rfl, ehp', hg⟩, ?_⟩
          show 1000 + (100 - (0 : Int32).toNatClampNeg) < 2000 + (100 - y.toNatClampNeg)
          omega
        · have c62 : ¬ hp'.1 25 1 ≤ y := c62
          rw [v25] at c62
          have hlt := clt ey (n := mszN hp) rfl (by omega) (by omega) c62
          have iy : vp_in y 80 := inx ey (by omega) (by omega)
          have hms : 2000 + (100 - (y + 1).toNatClampNeg) < 2000 + (100 - y.toNatClampNeg) := by rw [inc1 ey, hy, nIc (by omega)]; omega
          obtain ⟨e, he, ee⟩ := diS_ok hP s k hlt
          have hdi : (if s = 0 then hp'.1 26 y.toNatClampNeg else hp'.1 27 y.toNatClampNeg) = diS hp s k := by rw [w26, w27, hy]; rfl
          have i32 : vp_in (if s = 0 then hp'.1 26 y.toNatClampNeg else hp'.1 27 y.toNatClampNeg) 32 := by rw [hdi, ee]; exact nIv he (by omega)
          refine ⟨iy, ⟨fun c72 => ?_, fun c72 => ⟨⟨rfl, iy⟩, fun r83 => ⟨i32, ⟨i32, ?_⟩⟩, fun e83 x83 => no0 x83⟩⟩⟩
          · have c72 : ¬ hp'.1 29 y.toNatClampNeg = 0 := c72
            rw [w29, hy] at c72
            refine ⟨rfl, ⟨k + 1, x, _, _, _, rfl, inc1 ey, by omega, ?_, ?_, hg⟩, hms⟩
            · show x = cU (hp.1 29) k (lp (cU (hp.1 29)) k 0)
              unfold cU
              rw [if_neg c72]
              exact ex
            · show hp' = sR (setT 0 hp) 38 (bMa (hp.1 29) (diS hp s) k (lp (bMa (hp.1 29) (diS hp s)) k (zeroR 32 (hp.1 38))))
              have : bMa (hp.1 29) (diS hp s) k (lp (bMa (hp.1 29) (diS hp s)) k (zeroR 32 (hp.1 38))) = lp (bMa (hp.1 29) (diS hp s)) k (zeroR 32 (hp.1 38)) := if_neg c72
              rw [this]
              exact ehp'
          · have c72 : hp'.1 29 y.toNatClampNeg = 0 := c72
            rw [w29, hy] at c72
            refine ⟨rfl, ⟨k + 1, x + 1, _, _, _, rfl, inc1 ey, by omega, ?_, ?_, hg⟩, hms⟩
            · show x + 1 = cU (hp.1 29) k (lp (cU (hp.1 29)) k 0)
              rw [← ex]
              unfold cU
              rw [if_pos c72]
            · show setA hp' 38 (if s = 0 then hp'.1 26 y.toNatClampNeg else hp'.1 27 y.toNatClampNeg).toNatClampNeg (hp'.1 38 (if s = 0 then hp'.1 26 y.toNatClampNeg else hp'.1 27 y.toNatClampNeg).toNatClampNeg + 1) = sR (setT 0 hp) 38 (bMa (hp.1 29) (diS hp s) k (lp (bMa (hp.1 29) (diS hp s)) k (zeroR 32 (hp.1 38))))
              have : bMa (hp.1 29) (diS hp s) k (lp (bMa (hp.1 29) (diS hp s)) k (zeroR 32 (hp.1 38))) = upd (lp (bMa (hp.1 29) (diS hp s)) k (zeroR 32 (hp.1 38))) (cN (diS hp s k)) (lp (bMa (hp.1 29) (diS hp s)) k (zeroR 32 (hp.1 38)) (cN (diS hp s k)) + 1) := if_pos c72
              rw [this, hdi, setA_as, ehp', sR_at, sR_sR]
              rfl
      obtain ⟨rfl, rfl⟩ := at1 hq
      obtain ⟨i, x, a, b, y, rfl, ey, hi, ex, ea, eb, ehp, hg⟩ := hL
      have hg : gDs s p = 0 := hg
      have ehp : hp' = mDs hp s := ehp
      have ex : x = lp (cU (hp.1 29)) (mszN hp) 0 := ex
      have ea : a = lp (bDf ((mDs hp s).1 38)) i 0 := ea
      have eb : b = lp (bSi ((mDs hp s).1 38)) i 0 := eb
      have hy := nx ey (by omega)
      refine ⟨fun c113 => ?_, fun c113 => ?_⟩
      · have := cge ey (n := 32) rfl (by omega) (by omega) c113
        have hi2 : i = 32 := by omega
        subst hi2
        have hd := diS_ok hP s
        have hrow : ∀ d, d < 32 → ow (hp.1 29) (diS hp s) (mszN hp) d ≤ 4000 ∧ (mDs hp s).1 38 d = nI (ow (hp.1 29) (diS hp s) (mszN hp) d) := fun d hd2 => ⟨by have := ow_le (hp.1 29) (diS hp s) (mszN hp) d; omega, by rw [mDs_38]; exact bMa_at hd d hd2⟩
        obtain ⟨dn, sn⟩ := df_n hrow
        rw [dn] at ea
        rw [sn] at eb
        rw [cU_n] at ex
        have lS : cnP (fun d => decide (ow (hp.1 29) (diS hp s) (mszN hp) d = 1)) 32 ≤ cnP (fun k => decide (hp.1 29 k = 0)) (mszN hp) := by rw [← ow_sum (du := hp.1 29) hd]; exact one_sum
        have lN := cnP_le (fun k => decide (hp.1 29 k = 0)) (mszN hp)
        have lD := cnP_le (fun d => decide (0 < ow (hp.1 29) (diS hp s) (mszN hp) d)) 32
        obtain ⟨q1, q2⟩ := r1 s p hp _ hg rfl
        unfold dsQ at q1 q2
        generalize cnP (fun k => decide (hp.1 29 k = 0)) (mszN hp) = N at ex lS lN q1 q2
        generalize cnP (fun d => decide (0 < ow (hp.1 29) (diS hp s) (mszN hp) d)) 32 = D at ea lD q1 q2
        generalize cnP (fun d => decide (ow (hp.1 29) (diS hp s) (mszN hp) d = 1)) 32 = S at eb lS q1 q2
        have lDN : D * N ≤ 4000 := Nat.le_trans (Nat.mul_le_mul lD (Nat.le_trans lN h80)) (by omega)
        have eM : a * x = nI (D * N) := by rw [ea, ex, pk_mul]
        have eS : x - b = nI (N - S) := by rw [ex, eb, pk_sub lS]
        refine ⟨fun c166 => ⟨⟨rfl, ⟨D * N, by omega, eM⟩, N - S, by omega, eS⟩, fun r191 => ⟨⟨rfl, trivial⟩, fun r196 => ⟨rfl, ?_, ?_⟩, fun e196 x196 => no0 x196⟩, fun e191 x191 => no0 x191⟩, fun c166 => ⟨⟨rfl, trivial⟩, fun r196 => ⟨rfl, ?_, ?_⟩, fun e196 x196 => no0 x196⟩⟩
        · have c166 : ¬ x = 0 := c166
          have hN : ¬ N = 0 := fun q => c166 (by rw [ex, q]; rfl)
          rw [if_neg hN] at q1
          show some (if p = 0 then (lsN (a * x) (x - b) hp').1 25 24 else (lsN (a * x) (x - b) hp').1 25 25) = some (rv s p hp)
          rw [eM, eS, frS_ls lDN (by omega), frS_r, q1]
        · have c166 : ¬ x = 0 := c166
          have hN : ¬ N = 0 := fun q => c166 (by rw [ex, q]; rfl)
          rw [if_neg hN] at q2
          show lsN (a * x) (x - b) hp' = sg s p hp
          rw [eM, eS, frS_ls lDN (by omega), q2, ehp]
        · have c166 : x = 0 := c166
          have hN : N = 0 := by rw [ex] at c166; exact (nI_eq (b := 0) (by omega) (by omega)).mp c166
          rw [if_pos hN] at q1
          show some (if p = 0 then (frS (0, 1) hp').1 25 24 else (frS (0, 1) hp').1 25 25) = some (rv s p hp)
          rw [frS_r, q1]
        · have c166 : x = 0 := c166
          have hN : N = 0 := by rw [ex] at c166; exact (nI_eq (b := 0) (by omega) (by omega)).mp c166
          rw [if_pos hN] at q2
          show frS (0, 1) hp' = sg s p hp
          rw [q2, ehp]
      · have hlt := clt ey (n := 32) rfl (by omega) (by omega) c113
        have iy : vp_in y 32 := inx ey hlt (by omega)
        have hms : 1000 + (100 - (y + 1).toNatClampNeg) < 1000 + (100 - y.toNatClampNeg) := by rw [inc1 ey, hy, nIc (by omega)]; omega
        have wy : hp'.1 38 y.toNatClampNeg = (mDs hp s).1 38 i := by rw [ehp, hy]
        have st : ∀ (a' b' : Int32), bDf ((mDs hp s).1 38) i a = a' → bSi ((mDs hp s).1 38) i b = b' → ∃ (i2 : Nat) (x2 a2 b2 y2 : Int32), [some (Value.ref 25), some (.int s), some (.int p), some (.int x), some (.int a'), some (.int b'), some (.int (y + 1))] = [some (Value.ref 25), some (.int s), some (.int p), some (.int x2), some (.int a2), some (.int b2), some (.int y2)] ∧ y2 = nI i2 ∧ i2 ≤ 32 ∧ x2 = lp (cU (hp.1 29)) (mszN hp) 0 ∧ a2 = lp (bDf ((mDs hp s).1 38)) i2 0 ∧ b2 = lp (bSi ((mDs hp s).1 38)) i2 0 ∧ hp' = mDs hp s ∧ gDs s p = 0 := fun a' b' h1 h2 => ⟨i + 1, _, _, _, _, rfl, inc1 ey, by omega, ex, by rw [← h1, ea]; rfl, by rw [← h2, eb]; rfl, ehp, hg⟩
        refine ⟨iy, ⟨fun c123 => ⟨iy, ⟨fun c145 => ⟨rfl, st a b ?_ ?_, hms⟩, fun c145 => ⟨rfl, st a (b + 1) ?_ ?_, hms⟩⟩⟩, fun c123 => ⟨iy, ⟨fun c145 => ⟨rfl, st (a + 1) b ?_ ?_, hms⟩, fun c145 => ⟨rfl, st (a + 1) (b + 1) ?_ ?_, hms⟩⟩⟩⟩⟩
        all_goals try (have c123 : hp'.1 38 y.toNatClampNeg ≤ 0 := c123)
        all_goals try (have c123 : ¬ hp'.1 38 y.toNatClampNeg ≤ 0 := c123)
        all_goals rw [wy] at c123
        all_goals try (have c145 : hp'.1 38 y.toNatClampNeg = 1 := c145)
        all_goals try (have c145 : ¬ hp'.1 38 y.toNatClampNeg = 1 := c145)
        all_goals rw [wy] at c145
        · exact if_pos c123
        · exact if_neg c145
        · exact if_pos c123
        · exact if_pos c145
        · exact if_neg c123
        · exact if_neg c145
        · exact if_neg c123
        · exact if_pos c145)
def rDsM (s p : Int32) (hp : mm_Hp) : Int32 := if gDs s p = 0 then frR (dsQ (hp.1 29) (diS hp s) (mszN hp)).1 (dsQ (hp.1 29) (diS hp s) (mszN hp)).2 p else 0
def hDsM (s p : Int32) (hp : mm_Hp) : mm_Hp := if gDs s p = 0 then frS (dsQ (hp.1 29) (diS hp s) (mszN hp)) (mDs hp s) else setT (gDs s p) hp
def sM_dies : mm_Ct := ct2 25 1 (fun _ _ hp => mdOk hp) (fun _ _ _ => 0) rDsM hDsM
theorem M_M_dies {E : En} (hE : EOk E) : Mt E yM_dies cM_dies 7 (some .int) 6 sM_dies :=
  M_M_dies_g hE rDsM hDsM (fun s p hp q h e => by unfold rDsM hDsM; rw [if_pos h, if_pos h, e]; exact ⟨rfl, rfl⟩) (fun s p hp h => by unfold rDsM hDsM; rw [if_neg h, if_neg h]; exact ⟨rfl, rfl⟩)
