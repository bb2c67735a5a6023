/-! ===== Integer.bitCount; DieGraphs: doubt, wear, row ===== -/
def ush (x n : Int32) : Int32 := (x.toUInt32 >>> (n.toUInt32 &&& Int32.toUInt32 31)).toInt32
def bc1 (x : Int32) : Int32 := x - (ush x 1 &&& 1431655765)
def bc2 (x : Int32) : Int32 := (x &&& 858993459) + (ush x 2 &&& 858993459)
def bc3 (x : Int32) : Int32 := (x + ush x 4) &&& 252645135
def bc4 (x : Int32) : Int32 := x + ush x 8
def bc5 (x : Int32) : Int32 := x + ush x 16
def fBC (x : Int32) : Int32 := bc5 (bc4 (bc3 (bc2 (bc1 x)))) &&& 63
def sI_bitCount : mm_Ct := cs1 1 (fun _ _ => True) (fun _ _ => 0) (fun x _ => fBC x)
theorem M_I_bitCount {E : En} (hE : EOk E) : Mt E yI_bitCount cI_bitCount 1 (some .int) 1 sI_bitCount :=
  metS (n := 60) (tab := tI_bitCount) (cals := []) hE flI_ok pfI_ok csI_ok rfl (by decide) kI_bitCount rfl cf_nil (rt_i rfl) cs1_c (by decide) rfl (fun as hp hl h => by
    obtain ⟨x, rfl, hP⟩ := cs1_s h
    exact ⟨rfl, rfl, rfl⟩)
def setD (c b : Int32) (hp : mm_Hp) : mm_Hp := (mm_up hp.1 11 c.toNatClampNeg b, hp.2)
def fDbG (rT : mm_Hp → Int32) (hT : mm_Hp → mm_Hp) (c b : Int32) (hp : mm_Hp) : Int32 × mm_Hp := if hp.1 11 c.toNatClampNeg = b then (0, hp) else if b = 0 then (if rT (setD c b hp) = 0 then (1, hT (setD c b hp)) else (0, setD c 1 (hT (setD c b hp)))) else (1, setD c b hp)
def fDb : Int32 → Int32 → mm_Hp → Int32 × mm_Hp := fDbG rTR hTR
theorem upn {hp : mm_Hp} {c i a : Nat} {v : Int32} (h : a ≠ c) : (mm_up hp.1 c i v, hp.2).1 a = hp.1 a := mm_up_n h
theorem ups {hp : mm_Hp} {c i : Nat} {v : Int32} : (mm_up hp.1 c i v, hp.2).1 c = upd (hp.1 c) i v := mm_up_s
theorem prOk_cells {hp hp' : mm_Hp} (h : prOk hp) (e1 : hp'.1 1 7 = hp.1 1 7) (e5 : hp'.1 5 = hp.1 5) (e6 : hp'.1 6 = hp.1 6) (e8 : ∀ k, k < szN hp → stOk (hp'.1 8 k)) (e9 : ∀ k, k < szN hp → stOk (hp'.1 9 k)) (e11 : ∀ k, k < szN hp → isB (hp'.1 11 k)) (er : rwOk hp') : prOk hp' := by
  have hz : szN hp' = szN hp := by unfold szN; rw [e1]
  obtain ⟨⟨⟨⟨n, hn, en⟩, hc⟩, hs⟩, hr⟩ := h
  refine ⟨⟨⟨⟨n, hn, e1.trans en⟩, fun k hk => ?_⟩, fun k hk => ?_⟩, er⟩
  · rw [hz] at hk
    rw [e5, e6]
    exact ⟨e11 k hk, (hc k hk).2⟩
  · rw [hz] at hk
    exact ⟨e8 k hk, e9 k hk⟩
theorem rwOk_cells {hp hp' : mm_Hp} (h : rwOk hp) (e3 : hp'.1 3 3 = hp.1 3 3) (e13 : hp'.1 13 = hp.1 13) (e14 : hp'.1 14 = hp.1 14) : rwOk hp' := by
  have hz : rwN hp' = rwN hp := by unfold rwN; rw [e3]
  obtain ⟨⟨n, hn, en⟩, hr⟩ := h
  refine ⟨⟨n, hn, e3.trans en⟩, fun k hk => ?_⟩
  rw [hz] at hk
  rw [e13, e14]
  exact hr k hk
theorem upd_all {P : Int32 → Prop} {f : Nat → Int32} {i : Nat} {v : Int32} (h : ∀ k, P (f k)) (hv : P v) : ∀ k, P (upd f i v k) := by
  intro k
  unfold upd
  split
  · exact hv
  · exact h k
theorem upd_all' {P : Int32 → Prop} {f : Nat → Int32} {i n : Nat} {v : Int32} (h : ∀ k, k < n → P (f k)) (hv : P v) : ∀ k, k < n → P (upd f i v k) := by
  intro k hk
  unfold upd
  split
  · exact hv
  · exact h k hk
theorem prOk_up8 {i : Nat} {v : Int32} {hp : mm_Hp} (h : prOk hp) (hv : stOk v) : prOk (mm_up hp.1 8 i v, hp.2) := by
  refine prOk_cells h (congrFun (upn (by omega)) 7) (upn (by omega)) (upn (by omega)) (fun k hk => ?_) (fun k hk => ?_) (fun k hk => ?_) (rwOk_cells h.2 (congrFun (upn (by omega)) 3) (upn (by omega)) (upn (by omega)))
  · rw [ups]; exact upd_all' (fun k hk => (h.1.2 k hk).1) hv k hk
  · rw [upn (by omega)]; exact (h.1.2 k hk).2
  · rw [upn (by omega)]; exact (h.1.1.2 k hk).1
theorem prOk_up9 {i : Nat} {v : Int32} {hp : mm_Hp} (h : prOk hp) (hv : stOk v) : prOk (mm_up hp.1 9 i v, hp.2) := by
  refine prOk_cells h (congrFun (upn (by omega)) 7) (upn (by omega)) (upn (by omega)) (fun k hk => ?_) (fun k hk => ?_) (fun k hk => ?_) (rwOk_cells h.2 (congrFun (upn (by omega)) 3) (upn (by omega)) (upn (by omega)))
  · rw [upn (by omega)]; exact (h.1.2 k hk).1
  · rw [ups]; exact upd_all' (fun k hk => (h.1.2 k hk).2) hv k hk
  · rw [upn (by omega)]; exact (h.1.1.2 k hk).1
theorem prOk_up11 {i : Nat} {v : Int32} {hp : mm_Hp} (h : prOk hp) (hv : isB v) : prOk (mm_up hp.1 11 i v, hp.2) := by
  refine prOk_cells h (congrFun (upn (by omega)) 7) (upn (by omega)) (upn (by omega)) (fun k hk => ?_) (fun k hk => ?_) (fun k hk => ?_) (rwOk_cells h.2 (congrFun (upn (by omega)) 3) (upn (by omega)) (upn (by omega)))
  · rw [upn (by omega)]; exact (h.1.2 k hk).1
  · rw [upn (by omega)]; exact (h.1.2 k hk).2
  · rw [ups]; exact upd_all' (fun k hk => (h.1.1.2 k hk).1) hv k hk
theorem prOk_setD {c b : Int32} {hp : mm_Hp} (h : prOk hp) (hb : isB b) : prOk (setD c b hp) := prOk_up11 h hb
theorem M_G_doubt_g {E : En} (hE : EOk E) (rT : mm_Hp → Int32) (hT : mm_Hp → mm_Hp) (hMT : Mt E yP_tellsRing cP_tellsRing 5 (some .boolean) 5 (ct0 3 1 prOk (fun _ => 0) rT hT)) (rv : Int32 → Int32 → mm_Hp → Int32) (sg : Int32 → Int32 → mm_Hp → mm_Hp) (hq : ∀ c b hp q, xCoin c hp = 0 → fDbG rT hT c b hp = q → rv c b hp = q.1 ∧ sg c b hp = q.2) (hx : ∀ c b hp x, xCoin c hp = x + 1 → sg c b hp = hp) (hrB : ∀ c b hp, isB (rv c b hp)) :
    Mt E yG_doubt cG_doubt 3 (some .boolean) 9 (ct2 0 1 (fun _ b hp => prOk hp ∧ isB b) (fun c _ hp => xCoin c hp) rv sg) :=
  metGS (n := 60) (tab := tG_doubt) (cals := [(142, sG_requireCoin), (150, sC_isDoubted), (158, sC_setDoubt), (166, ct0 3 1 prOk (fun _ => 0) rT hT)]) hE rfl (by decide) (by decide) kG_doubt rfl (cf_v 71 (lG_71 (M_G_requireCoin hE) (by decide) ct1_t rfl) (cf_v 75 (lG_75 (M_C_isDoubted hE) (by decide) ct1_t rfl) (cf_v 79 (lG_79 (M_C_setDoubt hE) (by decide) ct2_t rfl) (cf_v 83 (lG_83 hMT (by decide) ct0_t rfl) cf_nil)))) (rt_z2 (fun a b hp _ => hrB a b hp)) ct2_c (Nat.le_of_ble_eq_true rfl) rfl (fun as hp hl h => by
    obtain ⟨c, b, rfl, hP, hb⟩ := ct2_s h
    refine ⟨⟨rfl, trivial⟩, fun r2 => ?_, fun e2 x2 => ⟨x2, (hx c b hp e2 x2).symm⟩⟩
    have r2 : xCoin c hp = 0 := r2
    obtain ⟨k, hk, rfl, hk8⟩ := xCoin0 hP.1.1.1 r2
    have hin : vp_in (nI k) 80 := nIv hk8 (by omega)
    have hB : isB (hp.1 11 (nI k).toNatClampNeg) := by rw [nIc (by omega)]; exact (hP.1.1.2 k hk).1
    refine ⟨⟨rfl, hin, hB⟩, fun r10 => ⟨fun c14 => ?_, fun c14 => ?_⟩, fun e10 x10 => no0 x10⟩
    · have c14 : ¬ hp.1 11 (nI k).toNatClampNeg = b := c14
      refine ⟨⟨rfl, hin, hb⟩, fun r25 => ⟨fun c29 => ?_, fun c29 => ?_⟩, fun e25 x25 => no0 x25⟩
      · have c29 : ¬ b = 0 := c29
        obtain ⟨q1, q2⟩ := hq (nI k) b hp _ r2 ((if_neg c14).trans (if_neg c29))
        exact ⟨r2, congrArg some q1.symm, q2.symm⟩
      · have c29 : b = 0 := c29
        refine ⟨⟨rfl, prOk_setD hP hb⟩, fun r36 => ⟨fun c39 => ?_, fun c39 => ?_⟩, fun e36 x36 => no0 x36⟩
        · have c39 : ¬ rT (setD (nI k) b hp) = 0 := c39
          obtain ⟨q1, q2⟩ := hq (nI k) b hp _ r2 ((if_neg c14).trans ((if_pos c29).trans (if_neg c39)))
          exact ⟨⟨rfl, hin, Or.inr rfl⟩, fun r50 => ⟨r2, congrArg some q1.symm, q2.symm⟩, fun e50 x50 => no0 x50⟩
        · have c39 : rT (setD (nI k) b hp) = 0 := c39
          obtain ⟨q1, q2⟩ := hq (nI k) b hp _ r2 ((if_neg c14).trans ((if_pos c29).trans (if_pos c39)))
          exact ⟨r2, congrArg some q1.symm, q2.symm⟩
    · have c14 : hp.1 11 (nI k).toNatClampNeg = b := c14
      obtain ⟨q1, q2⟩ := hq (nI k) b hp _ r2 (if_pos c14)
      exact ⟨r2, congrArg some q1.symm, q2.symm⟩)
theorem fDb_B (c b : Int32) (hp : mm_Hp) : isB (fDb c b hp).1 := by
  unfold fDb fDbG
  split
  · exact Or.inl rfl
  · split
    · split
      · exact Or.inr rfl
      · exact Or.inl rfl
    · exact Or.inr rfl
def sG_doubt : mm_Ct := ct2 0 1 (fun _ b hp => prOk hp ∧ isB b) (fun c _ hp => xCoin c hp) (fun c b hp => (fDb c b hp).1) (fun c b hp => if xCoin c hp = 0 then (fDb c b hp).2 else hp)
theorem M_G_doubt {E : En} (hE : EOk E) : Mt E yG_doubt cG_doubt 3 (some .boolean) 9 sG_doubt :=
  M_G_doubt_g hE rTR hTR (M_P_tellsRing hE) (fun c b hp => (fDb c b hp).1) (fun c b hp => if xCoin c hp = 0 then (fDb c b hp).2 else hp) (fun c b hp q h0 h => by rw [← h]; exact ⟨rfl, if_pos h0⟩) (fun c b hp x h => if_neg (by omega)) fDb_B
def setS (c s x : Int32) (hp : mm_Hp) : mm_Hp := if s = 0 then (mm_up hp.1 8 c.toNatClampNeg x, hp.2) else (mm_up hp.1 9 c.toNatClampNeg x, hp.2)
def getS (c s : Int32) (hp : mm_Hp) : Int32 := if s = 0 then hp.1 8 c.toNatClampNeg else hp.1 9 c.toNatClampNeg
def xWr (c s t : Int32) (hp : mm_Hp) : Nat := if xCoin c hp = 0 then (if xSide s = 0 then (if t < -1 ∨ 10 ≤ t then 2 else 0) else xSide s) else xCoin c hp
def fWrG (rT : mm_Hp → Int32) (hT : mm_Hp → mm_Hp) (c s t : Int32) (hp : mm_Hp) : Int32 × mm_Hp := if rT (setS c s t hp) = 0 then (1, hT (setS c s t hp)) else (0, setS c s (getS c s hp) (hT (setS c s t hp)))
def fWr : Int32 → Int32 → Int32 → mm_Hp → Int32 × mm_Hp := fWrG rTR hTR
theorem stOk_of {t : Int32} (h1 : ¬ t < -1) (h2 : t < 10) : stOk t := by
  by_cases h0 : t < 0
  · left
    rw [Int32.lt_iff_toInt_lt] at h1 h0
    rw [show (-1 : Int32).toInt = -1 from rfl] at h1
    rw [show (0 : Int32).toInt = 0 from rfl] at h0
    exact Int32.toInt_inj.mp (show t.toInt = -1 by omega)
  · right
    rcases pk_ix t (n := 10) (by omega) with h3 | h3 | ⟨j, hj, rfl⟩
    · exact absurd h3 h0
    · exact absurd h3 (lt_nge h2)
    · exact ⟨j, hj, rfl⟩
theorem prOk_setS {c s t : Int32} {hp : mm_Hp} (h : prOk hp) (ht : stOk t) : prOk (setS c s t hp) := by
  unfold setS
  split
  · exact prOk_up8 h ht
  · exact prOk_up9 h ht
theorem M_G_wear_g {E : En} (hE : EOk E) (rT : mm_Hp → Int32) (hT : mm_Hp → mm_Hp) (hMT : Mt E yP_tellsRing cP_tellsRing 5 (some .boolean) 5 (ct0 3 1 prOk (fun _ => 0) rT hT)) (rv : Int32 → Int32 → Int32 → mm_Hp → Int32) (sg : Int32 → Int32 → Int32 → mm_Hp → mm_Hp) (hq : ∀ c s t hp q, xWr c s t hp = 0 → fWrG rT hT c s t hp = q → rv c s t hp = q.1 ∧ sg c s t hp = q.2) (hx : ∀ c s t hp x, xWr c s t hp = x + 1 → sg c s t hp = hp) (hrB : ∀ c s t hp, isB (rv c s t hp)) :
    Mt E yG_wear cG_wear 5 (some .boolean) 9 (ct3 0 1 (fun _ _ _ hp => prOk hp) xWr rv sg) :=
  metGS (n := 60) (tab := tG_wear) (cals := [(142, sG_requireCoin), (175, sG_requireSide), (184, sC_stageOf), (192, sC_setStage), (166, ct0 3 1 prOk (fun _ => 0) rT hT)]) hE rfl (by decide) (by decide) kG_wear rfl (cf_v 71 (lG_71 (M_G_requireCoin hE) (by decide) ct1_t rfl) (cf_s 87 (lG_87 (M_G_requireSide hE) (by decide) rfl) (cf_v 92 (lG_92 (M_C_stageOf hE) (by decide) ct2_t rfl) (cf_v 96 (lG_96 (M_C_setStage hE) (by decide) ct3_t rfl) (cf_v 83 (lG_83 hMT (by decide) ct0_t rfl) cf_nil))))) (rt_z3 (fun a b c hp _ => hrB a b c hp)) ct3_c (Nat.le_of_ble_eq_true rfl) rfl (fun as hp hl h => by
    obtain ⟨c, s, t, rfl, hP⟩ := ct3_s h
    have X1 : ∀ x, xCoin c hp = x + 1 → xWr c s t hp = x + 1 := fun x p => by unfold xWr; rw [if_neg (by omega)]; exact p
    have X2 : ∀ x, xCoin c hp = 0 → xSide s = x + 1 → xWr c s t hp = x + 1 := fun x p q => by unfold xWr; rw [if_pos p, if_neg (by omega)]; exact q
    have X3 : xCoin c hp = 0 → xSide s = 0 → (t < -1 ∨ 10 ≤ t) → xWr c s t hp = 2 := fun p q r => by unfold xWr; rw [if_pos p, if_pos q, if_pos r]
    have X4 : xCoin c hp = 0 → xSide s = 0 → ¬ (t < -1 ∨ 10 ≤ t) → xWr c s t hp = 0 := fun p q r => by unfold xWr; rw [if_pos p, if_pos q, if_neg r]
    refine ⟨⟨rfl, trivial⟩, fun r2 => ?_, fun e2 x2 => ⟨X1 e2 x2, (hx c s t hp e2 (X1 e2 x2)).symm⟩⟩
    have r2 : xCoin c hp = 0 := r2
    refine ⟨trivial, fun r6 => ?_, fun e6 x6 => ⟨X2 e6 r2 x6, (hx c s t hp e6 (X2 e6 r2 x6)).symm⟩⟩
    have r6 : xSide s = 0 := r6
    refine ⟨fun c11 => ⟨rfl, X3 r2 r6 (Or.inl c11), (hx c s t hp 1 (X3 r2 r6 (Or.inl c11))).symm⟩, fun c11 => ⟨fun c17 => ?_, fun c17 => ⟨rfl, X3 r2 r6 (Or.inr (nlt_ge c17)), (hx c s t hp 1 (X3 r2 r6 (Or.inr (nlt_ge c17)))).symm⟩⟩⟩
    have Z : xWr c s t hp = 0 := X4 r2 r6 (fun q => q.elim c11 (lt_nge c17))
    have hst : stOk t := stOk_of c11 c17
    obtain ⟨k, hk, rfl, hk8⟩ := xCoin0 hP.1.1.1 r2
    have hin : vp_in (nI k) 80 := nIv hk8 (by omega)
    refine ⟨⟨rfl, hin⟩, fun r36 => ⟨⟨rfl, hin⟩, fun r48 => ⟨⟨rfl, ?_⟩, fun r55 => ⟨fun c58 => ?_, fun c58 => ?_⟩, fun e55 x55 => no0 x55⟩, fun e48 x48 => no0 x48⟩, fun e36 x36 => no0 x36⟩
    · show prOk (setS (nI k) s t hp)
      exact prOk_setS hP hst
    · have c58 : ¬ rT (setS (nI k) s t hp) = 0 := c58
      obtain ⟨q1, q2⟩ := hq (nI k) s t hp _ Z (if_neg c58)
      exact ⟨⟨rfl, hin⟩, fun r71 => ⟨Z, congrArg some q1.symm, q2.symm⟩, fun e71 x71 => no0 x71⟩
    · have c58 : rT (setS (nI k) s t hp) = 0 := c58
      obtain ⟨q1, q2⟩ := hq (nI k) s t hp _ Z (if_pos c58)
      exact ⟨Z, congrArg some q1.symm, q2.symm⟩)
theorem fWr_B (c s t : Int32) (hp : mm_Hp) : isB (fWr c s t hp).1 := by
  unfold fWr fWrG
  split
  · exact Or.inr rfl
  · exact Or.inl rfl
def sG_wear : mm_Ct := ct3 0 1 (fun _ _ _ hp => prOk hp) xWr (fun c s t hp => (fWr c s t hp).1) (fun c s t hp => if xWr c s t hp = 0 then (fWr c s t hp).2 else hp)
theorem M_G_wear {E : En} (hE : EOk E) : Mt E yG_wear cG_wear 5 (some .boolean) 9 sG_wear :=
  M_G_wear_g hE rTR hTR (M_P_tellsRing hE) (fun c s t hp => (fWr c s t hp).1) (fun c s t hp => if xWr c s t hp = 0 then (fWr c s t hp).2 else hp) (fun c s t hp q h0 h => by rw [← h]; exact ⟨rfl, if_pos h0⟩) (fun c s t hp x h => if_neg (by omega)) fWr_B
def xRw (a b : Int32) (hp : mm_Hp) : Nat := if xOrd a b = 0 then (if 60 ≤ hp.1 3 3 then 3 else 0) else xOrd a b
def fRwG (rT : mm_Hp → Int32) (hT : mm_Hp → mm_Hp) (a b : Int32) (hp : mm_Hp) : Int32 × mm_Hp := if rT (fAddRow a b hp) = 0 then (1, hT (fAddRow a b hp)) else (0, fDropRow (hT (fAddRow a b hp)))
def fRw : Int32 → Int32 → mm_Hp → Int32 × mm_Hp := fRwG rTR hTR
theorem prOk_addRow {a b : Int32} {hp : mm_Hp} (h : prOk hp) (ha : vp_in a 32) (hb : vp_in b 32) (hn : rwN hp < 60) : prOk (fAddRow a b hp) := by
  obtain ⟨n, hn2, en, ez⟩ := rwE h.2
  have k3 : (fAddRow a b hp).1 3 3 = nI (n + 1) := by
    show mm_up (mm_up (mm_up hp.1 13 (rwN hp) a) 14 (rwN hp) b) 3 3 (hp.1 3 3 + 1) 3 3 = _
    rw [mm_up_s, en, nI_1]
    simp [upd]
  have kz : rwN (fAddRow a b hp) = n + 1 := by unfold rwN; rw [k3]; exact nIc (by omega)
  have vE : ∀ {v : Int32}, vp_in v 32 → ∃ j, j < 32 ∧ v = nI j := by
    intro v hv
    rcases pk_ix v (n := 32) (by omega) with h3 | h3 | ⟨j, hj, rfl⟩
    · exact absurd (Or.inl h3) hv
    · refine absurd (Or.inr ?_) hv
      rw [Int32.le_iff_toInt_le] at h3
      have h4 : (nI 32).toInt = 32 := rfl
      rw [h4] at h3
      show 32 ≤ v.toInt.toNat
      omega
    · exact ⟨j, hj, rfl⟩
  refine prOk_cells h ?_ ?_ ?_ (fun k hk => ?_) (fun k hk => ?_) (fun k hk => ?_) ⟨⟨n + 1, by omega, k3⟩, fun k hk => ?_⟩
  · show mm_up (mm_up (mm_up hp.1 13 (rwN hp) a) 14 (rwN hp) b) 3 3 (hp.1 3 3 + 1) 1 7 = _
    rw [mm_up_n (by omega), mm_up_n (by omega), mm_up_n (by omega)]
  · show mm_up (mm_up (mm_up hp.1 13 (rwN hp) a) 14 (rwN hp) b) 3 3 (hp.1 3 3 + 1) 5 = _
    rw [mm_up_n (by omega), mm_up_n (by omega), mm_up_n (by omega)]
  · show mm_up (mm_up (mm_up hp.1 13 (rwN hp) a) 14 (rwN hp) b) 3 3 (hp.1 3 3 + 1) 6 = _
    rw [mm_up_n (by omega), mm_up_n (by omega), mm_up_n (by omega)]
  · show stOk (mm_up (mm_up (mm_up hp.1 13 (rwN hp) a) 14 (rwN hp) b) 3 3 (hp.1 3 3 + 1) 8 k)
    rw [mm_up_n (by omega), mm_up_n (by omega), mm_up_n (by omega)]; exact (h.1.2 k hk).1
  · show stOk (mm_up (mm_up (mm_up hp.1 13 (rwN hp) a) 14 (rwN hp) b) 3 3 (hp.1 3 3 + 1) 9 k)
    rw [mm_up_n (by omega), mm_up_n (by omega), mm_up_n (by omega)]; exact (h.1.2 k hk).2
  · show isB (mm_up (mm_up (mm_up hp.1 13 (rwN hp) a) 14 (rwN hp) b) 3 3 (hp.1 3 3 + 1) 11 k)
    rw [mm_up_n (by omega), mm_up_n (by omega), mm_up_n (by omega)]; exact (h.1.1.2 k hk).1
  · rw [kz] at hk
    constructor
    · show ∃ b', b' < 32 ∧ mm_up (mm_up (mm_up hp.1 13 (rwN hp) a) 14 (rwN hp) b) 3 3 (hp.1 3 3 + 1) 13 k = nI b'
      rw [mm_up_n (by omega), mm_up_n (by omega), mm_up_s, ez]
      unfold upd
      split
      · exact vE ha
      · exact (h.2.2 k (by omega)).1
    · show ∃ b', b' < 32 ∧ mm_up (mm_up (mm_up hp.1 13 (rwN hp) a) 14 (rwN hp) b) 3 3 (hp.1 3 3 + 1) 14 k = nI b'
      rw [mm_up_n (by omega), mm_up_s, ez]
      unfold upd
      split
      · exact vE hb
      · rw [mm_up_n (by omega)]; exact (h.2.2 k (by omega)).2
theorem M_G_row_g {E : En} (hE : EOk E) (rT : mm_Hp → Int32) (hT : mm_Hp → mm_Hp) (hMT : Mt E yP_tellsRing cP_tellsRing 5 (some .boolean) 5 (ct0 3 1 prOk (fun _ => 0) rT hT)) (rv : Int32 → Int32 → mm_Hp → Int32) (sg : Int32 → Int32 → mm_Hp → mm_Hp) (hq : ∀ a b hp q, xRw a b hp = 0 → fRwG rT hT a b hp = q → rv a b hp = q.1 ∧ sg a b hp = q.2) (hx : ∀ a b hp x, xRw a b hp = x + 1 → sg a b hp = hp) (hrB : ∀ a b hp, isB (rv a b hp)) :
    Mt E yG_row cG_row 3 (some .boolean) 9 (ct2 0 1 (fun _ _ hp => prOk hp) xRw rv sg) :=
  metGS (n := 60) (tab := tG_row) (cals := [(201, sG_requireDie), (207, sG_requireOneSide), (214, sP_rows), (224, sP_addRow), (166, ct0 3 1 prOk (fun _ => 0) rT hT), (230, sP_dropLastRow)]) hE rfl (by decide) (by decide) kG_row rfl (cf_s 100 (lG_100 (M_G_requireDie hE) (by decide) rfl) (cf_s 103 (lG_103 (M_G_requireOneSide hE) (by decide) rfl) (cf_v 107 (lG_107 (M_P_rows hE) (by decide) ct0_t rfl) (cf_v 112 (lG_112 (M_P_addRow hE) (by decide) ct2_t rfl) (cf_v 83 (lG_83 hMT (by decide) ct0_t rfl) (cf_v 115 (lG_115 (M_P_dropLastRow hE) (by decide) ct0_t rfl) cf_nil)))))) (rt_z2 (fun a b hp _ => hrB a b hp)) ct2_c (Nat.le_of_ble_eq_true rfl) rfl (fun as hp hl h => by
    obtain ⟨a, b, rfl, hP⟩ := ct2_s h
    have X1 : ∀ x, xDie a = x + 1 → xRw a b hp = x + 1 := fun x q => by
      have : xOrd a b = x + 1 := by unfold xOrd; rw [if_neg (by omega)]; exact q
      unfold xRw; rw [if_neg (by omega)]; exact this
    have X2 : ∀ x, xDie a = 0 → xDie b = x + 1 → xRw a b hp = x + 1 := fun x p q => by
      have : xOrd a b = x + 1 := by unfold xOrd; rw [if_pos p, if_neg (by omega)]; exact q
      unfold xRw; rw [if_neg (by omega)]; exact this
    have X3 : ∀ x, xDie a = 0 → xDie b = 0 → xOne a b = x + 1 → xRw a b hp = x + 1 := fun x p q r => by
      have : xOrd a b = x + 1 := by unfold xOrd; rw [if_pos p, if_pos q]; exact r
      unfold xRw; rw [if_neg (by omega)]; exact this
    refine ⟨trivial, fun r1 => ⟨trivial, fun r5 => ⟨trivial, fun r10 => ?_, fun e10 x10 => ⟨X3 e10 r1 r5 x10, (hx a b hp e10 (X3 e10 r1 r5 x10)).symm⟩⟩, fun e5 x5 => ⟨X2 e5 r1 x5, (hx a b hp e5 (X2 e5 r1 x5)).symm⟩⟩, fun e1 x1 => ⟨X1 e1 x1, (hx a b hp e1 (X1 e1 x1)).symm⟩⟩
    have r1 : xDie a = 0 := r1
    have r5 : xDie b = 0 := r5
    have r10 : xOne a b = 0 := r10
    have O : xOrd a b = 0 := by unfold xOrd; rw [if_pos r1, if_pos r5]; exact r10
    refine ⟨⟨rfl, trivial⟩, fun r17 => ⟨fun c22 => ?_, fun c22 => ?_⟩, fun e17 x17 => no0 x17⟩
    · have c22 : hp.1 3 3 < 60 := c22
      have Z : xRw a b hp = 0 := by unfold xRw; rw [if_pos O, if_neg (lt_nge c22)]
      obtain ⟨n, hn, en, ez⟩ := rwE hP.2
      have hn6 : n < 60 := by
        rw [en] at c22
        exact (nI_ltI (a := n) (b := 60) (by omega) (by omega)).mp c22
      have hrw : rwN hp < 60 := by omega
      have hpr : prOk (fAddRow a b hp) := prOk_addRow hP (xDie0 r1) (xDie0 r5) hrw
      refine ⟨⟨rfl, ?_⟩, fun r41 => ⟨⟨rfl, hpr⟩, fun r48 => ⟨fun c51 => ?_, fun c51 => ?_⟩, fun e48 x48 => no0 x48⟩, fun e41 x41 => no0 x41⟩
      · show vp_in (hp.1 3 3) 60
        rw [en]; exact nIv hn6 (by omega)
      · have c51 : ¬ rT (fAddRow a b hp) = 0 := c51
        obtain ⟨q1, q2⟩ := hq a b hp _ Z (if_neg c51)
        exact ⟨⟨rfl, trivial⟩, fun r60 => ⟨Z, congrArg some q1.symm, q2.symm⟩, fun e60 x60 => no0 x60⟩
      · have c51 : rT (fAddRow a b hp) = 0 := c51
        obtain ⟨q1, q2⟩ := hq a b hp _ Z (if_pos c51)
        exact ⟨Z, congrArg some q1.symm, q2.symm⟩
    · have c22 : ¬ hp.1 3 3 < 60 := c22
      have Z : xRw a b hp = 3 := by unfold xRw; rw [if_pos O, if_pos (nlt_ge c22)]
      exact ⟨rfl, Z, (hx a b hp 2 Z).symm⟩)
theorem fRw_B (a b : Int32) (hp : mm_Hp) : isB (fRw a b hp).1 := by
  unfold fRw fRwG
  split
  · exact Or.inr rfl
  · exact Or.inl rfl
def sG_row : mm_Ct := ct2 0 1 (fun _ _ hp => prOk hp) xRw (fun a b hp => (fRw a b hp).1) (fun a b hp => if xRw a b hp = 0 then (fRw a b hp).2 else hp)
theorem M_G_row {E : En} (hE : EOk E) : Mt E yG_row cG_row 3 (some .boolean) 9 sG_row :=
  M_G_row_g hE rTR hTR (M_P_tellsRing hE) (fun a b hp => (fRw a b hp).1) (fun a b hp => if xRw a b hp = 0 then (fRw a b hp).2 else hp) (fun a b hp q h0 h => by rw [← h]; exact ⟨rfl, if_pos h0⟩) (fun a b hp x h => if_neg (by omega)) fRw_B
