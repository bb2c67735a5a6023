/-! ===== DieGraphs: coins, order, hoards ===== -/
/-- 1, 2, 3: what coin() throws; 0: nothing -/
def xCn (f b m : Int32) (hp : mm_Hp) : Nat := if f < 0 ∨ 16 ≤ f then 1 else if b < 16 ∨ 32 ≤ b then 1 else if m < 1 ∨ 1000000 < m then 2 else if 80 ≤ hp.1 1 7 then 3 else 0
def hCn (f b m : Int32) (hp : mm_Hp) : mm_Hp := if xCn f b m hp = 0 then fC_add f b m hp else hp
def sG_coin : mm_Ct := ct3 0 1 (fun _ _ _ hp => szOk hp) xCn (fun _ _ _ hp => hp.1 1 7) hCn
theorem M_G_coin {E : En} (hE : EOk E) : Mt E yG_coin cG_coin 4 (some .int) 9 sG_coin :=
  metGS (n := 80) (tab := tG_coin) (cals := [(116, sC_size), (134, sC_add)]) hE rfl (by decide) (by decide) kG_coin rfl (cf_v 58 (lG_58 (M_C_size hE) (by decide) ct0_t rfl) (cf_v 67 (lG_67 (M_C_add hE) (by decide) ct3_t rfl) cf_nil)) (rt_i rfl) ct3_c (by decide) rfl (fun as hp hl h => by
    obtain ⟨f, b, m, rfl, hP⟩ := ct3_s h
    have hex : ∀ x, xCn f b m hp = x + 1 → hp = hCn f b m hp := fun x q => by unfold hCn; rw [if_neg (by omega)]
    have T1 : f < 0 ∨ 16 ≤ f → xCn f b m hp = 1 := fun q => if_pos q
    have T2 : ¬ (f < 0 ∨ 16 ≤ f) → (b < 16 ∨ 32 ≤ b) → xCn f b m hp = 1 := fun p q => by unfold xCn; rw [if_neg p, if_pos q]
    have T3 : ¬ (f < 0 ∨ 16 ≤ f) → ¬ (b < 16 ∨ 32 ≤ b) → (m < 1 ∨ 1000000 < m) → xCn f b m hp = 2 := fun p q r => by unfold xCn; rw [if_neg p, if_neg q, if_pos r]
    have T4 : ¬ (f < 0 ∨ 16 ≤ f) → ¬ (b < 16 ∨ 32 ≤ b) → ¬ (m < 1 ∨ 1000000 < m) → 80 ≤ hp.1 1 7 → xCn f b m hp = 3 := fun p q r z => by unfold xCn; rw [if_neg p, if_neg q, if_neg r, if_pos z]
    have T5 : ¬ (f < 0 ∨ 16 ≤ f) → ¬ (b < 16 ∨ 32 ≤ b) → ¬ (m < 1 ∨ 1000000 < m) → ¬ 80 ≤ hp.1 1 7 → xCn f b m hp = 0 := fun p q r z => by unfold xCn; rw [if_neg p, if_neg q, if_neg r, if_neg z]
    refine ⟨fun c1 => ⟨rfl, T1 (Or.inl c1), hex 0 (T1 (Or.inl c1))⟩, fun c1 => ⟨fun c7 => ?_, fun c7 => ⟨rfl, T1 (Or.inr (nlt_ge c7)), hex 0 (T1 (Or.inr (nlt_ge c7)))⟩⟩⟩
    have F : ¬ (f < 0 ∨ 16 ≤ f) := fun q => q.elim c1 (lt_nge c7)
    refine ⟨fun c23 => ⟨rfl, T2 F (Or.inl c23), hex 0 (T2 F (Or.inl c23))⟩, fun c23 => ⟨fun c29 => ?_, fun c29 => ⟨rfl, T2 F (Or.inr (nlt_ge c29)), hex 0 (T2 F (Or.inr (nlt_ge c29)))⟩⟩⟩
    have B : ¬ (b < 16 ∨ 32 ≤ b) := fun q => q.elim c23 (lt_nge c29)
    refine ⟨fun c44 => ⟨rfl, T3 F B (Or.inl c44), hex 1 (T3 F B (Or.inl c44))⟩, fun c44 => ⟨fun c50 => ?_, fun c50 => ⟨rfl, T3 F B (Or.inr (nle_lt c50)), hex 1 (T3 F B (Or.inr (nle_lt c50)))⟩⟩⟩
    have M : ¬ (m < 1 ∨ 1000000 < m) := fun q => q.elim c44 (fun z => lt_nge z c50)
    refine ⟨⟨rfl, trivial⟩, fun r67 => ⟨fun c72 => ?_, fun c72 => ⟨rfl, T4 F B M (nlt_ge c72), hex 2 (T4 F B M (nlt_ge c72))⟩⟩, fun e67 x67 => no0 x67⟩
    have c72 : hp.1 1 7 < 80 := c72
    have Z := T5 F B M (lt_nge c72)
    obtain ⟨n, hn, hs, hsz⟩ := szE hP
    have hin : vp_in (hp.1 1 7) 80 := by
      rw [hs] at c72 ⊢
      exact nIv ((nI_ltI (a := n) (b := 80) (by omega) (by omega)).mp c72) (by omega)
    refine ⟨⟨rfl, hin⟩, fun r92 => ⟨Z, rfl, ?_⟩, fun e92 x92 => no0 x92⟩
    show fC_add f b m hp = hCn f b m hp
    unfold hCn
    rw [if_pos Z])
def sG_ring : mm_Ct := ct1 0 1 (fun _ hp => tlOk hp) (fun k _ => xPlace k) (fun p hp => if hp.1 3 9 ≤ p then -1 else hp.1 19 p.toNatClampNeg) (fun _ hp => hp)
theorem xPl0 {k : Int32} (h : xPlace k = 0) : ¬ k < 0 := by
  unfold xPlace at h
  split at h
  · rename_i q; exact fun z => lt_nge z q
  · cases h
theorem M_G_ring {E : En} (hE : EOk E) : Mt E yG_ring cG_ring 2 (some .int) 9 sG_ring :=
  metGS (n := 40) (tab := tG_ring) (cals := [(237, sG_requirePlace), (242, sP_ringAt)]) hE rfl (by decide) (by decide) kG_ring rfl (cf_s 118 (lG_118 (M_G_requirePlace hE) (by decide) rfl) (cf_v 121 (lG_121 (M_P_ringAt hE) (by decide) ct1_t rfl) cf_nil)) (rt_i rfl) ct1_c (by decide) rfl (fun as hp hl h => by
    obtain ⟨k, rfl, hP⟩ := ct1_s h
    exact ⟨trivial, fun r1 => ⟨⟨rfl, xPl0 r1, hP⟩, fun r9 => ⟨r1, rfl, rfl⟩, fun e9 x9 => no0 x9⟩, fun e1 x1 => ⟨x1, rfl⟩⟩)
theorem xDie0 {d : Int32} (h : xDie d = 0) : vp_in d 32 := by
  unfold xDie at h
  split at h
  · cases h
  · rename_i q
    rcases pk_ix d (n := 32) (by omega) with h1 | h1 | ⟨j, hj, rfl⟩
    · exact absurd (Or.inl h1) q
    · exact absurd (Or.inr h1) q
    · exact nIv hj (by omega)
def xOrd (a b : Int32) : Nat := if xDie a = 0 then (if xDie b = 0 then xOne a b else xDie b) else xDie a
def rOrd (a b : Int32) (hp : mm_Hp) : Int32 := if bitAt ((fOrder hp).1 17 a.toNatClampNeg) b = 0 then (if bitAt ((fOrder hp).1 17 b.toNatClampNeg) a = 0 then 0 else 1) else -1
def sG_order : mm_Ct := ct2 0 1 (fun _ _ hp => prOk hp) (fun a b _ => xOrd a b) rOrd (fun a b hp => if xOrd a b = 0 then fOrder hp else hp)
theorem M_G_order {E : En} (hE : EOk E) : Mt E yG_order cG_order 3 (some .int) 9 sG_order :=
  metGS (n := 60) (tab := tG_order) (cals := [(201, sG_requireDie), (207, sG_requireOneSide), (250, sP_build), (256, sP_isEarlier)]) hE rfl (by decide) (by decide) kG_order rfl (cf_s 100 (lG_100 (M_G_requireDie hE) (by decide) rfl) (cf_s 103 (lG_103 (M_G_requireOneSide hE) (by decide) rfl) (cf_v 125 (lG_125 (M_P_build hE) (by decide) ct0_t rfl) (cf_v 128 (lG_128 (M_P_isEarlier hE) (by decide) ct2_t rfl) cf_nil)))) (rt_i rfl) ct2_c (by decide) rfl (fun as hp hl h => by
    obtain ⟨a, b, rfl, hP⟩ := ct2_s h
    have X1 : ∀ x, xDie a = x + 1 → xOrd a b = x + 1 := fun x q => by unfold xOrd; rw [if_neg (by omega)]; exact q
    have X2 : ∀ x, xDie a = 0 → xDie b = x + 1 → xOrd a b = x + 1 := fun x p q => by unfold xOrd; rw [if_pos p, if_neg (by omega)]; exact q
    have X3 : xDie a = 0 → xDie b = 0 → xOrd a b = xOne a b := fun p q => by unfold xOrd; rw [if_pos p, if_pos q]
    have hex : ∀ x, xOrd a b = x + 1 → hp = (if xOrd a b = 0 then fOrder hp else hp) := fun x q => by rw [if_neg (by omega)]
    refine ⟨trivial, fun r1 => ⟨trivial, fun r5 => ⟨trivial, fun r10 => ?_, fun e10 x10 => ⟨(X3 r1 r5).trans x10, hex e10 ((X3 r1 r5).trans x10)⟩⟩, fun e5 x5 => ⟨X2 e5 r1 x5, hex e5 (X2 e5 r1 x5)⟩⟩, fun e1 x1 => ⟨X1 e1 x1, hex e1 (X1 e1 x1)⟩⟩
    have Z : xOrd a b = 0 := (X3 r1 r5).trans r10
    have hZ : fOrder hp = (if xOrd a b = 0 then fOrder hp else hp) := (if_pos Z).symm
    refine ⟨⟨rfl, hP⟩, fun r17 => ⟨⟨rfl, xDie0 r1⟩, fun r26 => ⟨fun c29 => ⟨⟨rfl, xDie0 r5⟩, fun r40 => ⟨fun c43 => ⟨Z, ?_, hZ⟩, fun c43 => ⟨Z, ?_, hZ⟩⟩, fun e40 x40 => no0 x40⟩, fun c29 => ⟨Z, ?_, hZ⟩⟩, fun e26 x26 => no0 x26⟩, fun e17 x17 => no0 x17⟩
    · have c29 : (if bitAt ((fOrder hp).1 17 a.toNatClampNeg) b = 0 then (0 : Int32) else 1) = 0 := c29
      have c43 : (if bitAt ((fOrder hp).1 17 b.toNatClampNeg) a = 0 then (0 : Int32) else 1) = 0 := c43
      show some 0 = some (rOrd a b hp)
      unfold rOrd
      split
      · split
        · rfl
        · rename_i q; rw [if_neg q] at c43; exact absurd c43 (by decide)
      · rename_i q; rw [if_neg q] at c29; exact absurd c29 (by decide)
    · have c29 : (if bitAt ((fOrder hp).1 17 a.toNatClampNeg) b = 0 then (0 : Int32) else 1) = 0 := c29
      have c43 : ¬ (if bitAt ((fOrder hp).1 17 b.toNatClampNeg) a = 0 then (0 : Int32) else 1) = 0 := c43
      show some 1 = some (rOrd a b hp)
      unfold rOrd
      split
      · split
        · rename_i q; rw [if_pos q] at c43; exact absurd rfl c43
        · rfl
      · rename_i q; rw [if_neg q] at c29; exact absurd c29 (by decide)
    · have c29 : ¬ (if bitAt ((fOrder hp).1 17 a.toNatClampNeg) b = 0 then (0 : Int32) else 1) = 0 := c29
      show some (-1) = some (rOrd a b hp)
      unfold rOrd
      split
      · rename_i q; rw [if_pos q] at c29; exact absurd rfl c29
      · rfl)
def hBuild (hp : mm_Hp) : mm_Hp := sR (sR hp 2 (upd (hp.1 2) 2 (fBuild hp).1)) 12 (fBuild hp).2
def sG_chain : mm_Ct := ct1 0 1 (fun _ hp => cnOk hp) (fun d _ => xDie d) (fun d hp => (fBuild hp).2 d.toNatClampNeg) (fun d hp => if xDie d = 0 then hBuild hp else hp)
theorem M_G_chain {E : En} (hE : EOk E) : Mt E yG_chain cG_chain 2 (some .int) 9 sG_chain :=
  metGS (n := 40) (tab := tG_chain) (cals := [(201, sG_requireDie), (264, sH_build), (266, sH_leastDieWith)]) hE rfl (by decide) (by decide) kG_chain rfl (cf_s 100 (lG_100 (M_G_requireDie hE) (by decide) rfl) (cf_v 132 (lG_132 (M_H_build hE) (by decide) ct0_t rfl) (cf_v 133 (lG_133 (M_H_leastDieWith hE) (by decide) ct1_t rfl) cf_nil))) (rt_i rfl) ct1_c (by decide) rfl (fun as hp hl h => by
    obtain ⟨d, rfl, hP⟩ := ct1_s h
    exact ⟨trivial, fun r1 => ⟨⟨rfl, hP⟩, fun r8 => ⟨⟨rfl, xDie0 r1⟩, fun r16 => ⟨r1, rfl, (if_pos r1).symm⟩, fun e16 x16 => no0 x16⟩, fun e8 x8 => no0 x8⟩, fun e1 x1 => ⟨x1, (if_neg (fun z => Nat.succ_ne_zero e1 ((show xDie d = e1 + 1 from x1).symm.trans z))).symm⟩⟩)
def xHrd (hp : mm_Hp) : Nat := if 8 ≤ hp.1 0 4 then 3 else 0
def hHrd (hp : mm_Hp) : mm_Hp := if xHrd hp = 0 then (mm_up hp.1 0 4 (hp.1 0 4 + 1), hp.2) else hp
def sG_hoard : mm_Ct := ct0 0 1 (fun _ => True) xHrd (fun hp => hp.1 0 4 + 1 - 1) hHrd
theorem M_G_hoard {E : En} (hE : EOk E) : Mt E yG_hoard cG_hoard 1 (some .int) 9 sG_hoard :=
  metGS (n := 40) (tab := tG_hoard) (cals := []) hE rfl (by decide) (by decide) kG_hoard rfl cf_nil (rt_i rfl) ct0_c (by decide) rfl (fun as hp hl h => by
    obtain ⟨rfl, hP⟩ := ct0_s h
    refine ⟨fun c6 => ⟨?_, rfl, ?_⟩, fun c6 => ⟨rfl, ?_, ?_⟩⟩
    · exact if_neg (lt_nge c6)
    · have Z : xHrd hp = 0 := if_neg (lt_nge c6)
      exact (if_pos Z).symm
    · exact if_pos (nlt_ge c6)
    · have Z : xHrd hp = 3 := if_pos (nlt_ge c6)
      exact (if_neg (by rw [Z]; decide)).symm)
def xInt (h c : Int32) (hp : mm_Hp) : Nat := if xHoard h hp = 0 then xCoin c hp else xHoard h hp
def rInt (h c : Int32) (hp : mm_Hp) : Int32 := if bitAt (hp.1 10 c.toNatClampNeg) h = 0 then 1 else 0
def hInt (h c : Int32) (hp : mm_Hp) : mm_Hp := if xInt h c hp = 0 then (if bitAt (hp.1 10 c.toNatClampNeg) h = 0 then (mm_up hp.1 10 c.toNatClampNeg (hp.1 10 c.toNatClampNeg ||| bit1 h), hp.2) else hp) else hp
def sG_into : mm_Ct := ct2 0 1 (fun _ _ hp => szOk hp) xInt rInt hInt
theorem xCoin0 {c : Int32} {hp : mm_Hp} (hs : szOk hp) (h : xCoin c hp = 0) : ∃ k, k < szN hp ∧ c = nI k ∧ k < 80 := by
  obtain ⟨n, hn, h1, h2⟩ := szE hs
  unfold xCoin at h
  split at h
  · cases h
  · rename_i q
    rw [h1] at q
    rcases pk_ix c (n := n) (by omega) with h3 | h3 | ⟨j, hj, rfl⟩
    · exact absurd (Or.inl h3) q
    · exact absurd (Or.inr h3) q
    · exact ⟨j, by omega, rfl, by omega⟩
theorem M_G_into {E : En} (hE : EOk E) : Mt E yG_into cG_into 3 (some .boolean) 9 sG_into :=
  metGS (n := 40) (tab := tG_into) (cals := [(312, sG_requireHoard), (142, sG_requireCoin), (318, sC_isInHoard), (324, sC_putIntoHoard)]) hE rfl (by decide) (by decide) kG_into rfl (cf_v 156 (lG_156 (M_G_requireHoard hE) (by decide) ct1_t rfl) (cf_v 71 (lG_71 (M_G_requireCoin hE) (by decide) ct1_t rfl) (cf_v 159 (lG_159 (M_C_isInHoard hE) (by decide) ct2_t rfl) (cf_v 162 (lG_162 (M_C_putIntoHoard hE) (by decide) ct2_t rfl) cf_nil)))) (rt_z rfl (fun as hp h => by obtain ⟨a, b, rfl, -⟩ := ct2_s h; exact isB_fi)) ct2_c (by decide) rfl (fun as hp hl h => by
    obtain ⟨q, c, rfl, hP⟩ := ct2_s h
    have X1 : ∀ x, xHoard q hp = x + 1 → xInt q c hp = x + 1 := fun x p => by unfold xInt; rw [if_neg (by omega)]; exact p
    have X2 : xHoard q hp = 0 → xInt q c hp = xCoin c hp := fun p => by unfold xInt; rw [if_pos p]
    have hex : ∀ x, xInt q c hp = x + 1 → hp = hInt q c hp := fun x p => by unfold hInt; rw [if_neg (by omega)]
    refine ⟨⟨rfl, trivial⟩, fun r2 => ⟨⟨rfl, trivial⟩, fun r7 => ?_, fun e7 x7 => ⟨(X2 r2).trans x7, hex e7 ((X2 r2).trans x7)⟩⟩, fun e2 x2 => ⟨X1 e2 x2, hex e2 (X1 e2 x2)⟩⟩
    obtain ⟨k, hk, rfl, hk8⟩ := xCoin0 hP r7
    have hin : vp_in (nI k) 80 := nIv hk8 (by omega)
    have Z : xInt q (nI k) hp = 0 := (X2 r2).trans r7
    refine ⟨⟨rfl, hin⟩, fun r16 => ⟨fun c19 => ⟨⟨rfl, hin⟩, fun r30 => ⟨Z, ?_, ?_⟩, fun e30 x30 => no0 x30⟩, fun c19 => ⟨Z, ?_, ?_⟩⟩, fun e16 x16 => no0 x16⟩
    · have c19 : (if bitAt (hp.1 10 (nI k).toNatClampNeg) q = 0 then (0 : Int32) else 1) = 0 := c19
      show some 1 = some (rInt q (nI k) hp)
      unfold rInt
      split
      · rfl
      · rename_i p; rw [if_neg p] at c19; exact absurd c19 (by decide)
    · have c19 : (if bitAt (hp.1 10 (nI k).toNatClampNeg) q = 0 then (0 : Int32) else 1) = 0 := c19
      show (mm_up hp.1 10 (nI k).toNatClampNeg (hp.1 10 (nI k).toNatClampNeg ||| bit1 q), hp.2) = hInt q (nI k) hp
      unfold hInt
      rw [if_pos Z]
      split
      · rfl
      · rename_i p; rw [if_neg p] at c19; exact absurd c19 (by decide)
    · have c19 : ¬ (if bitAt (hp.1 10 (nI k).toNatClampNeg) q = 0 then (0 : Int32) else 1) = 0 := c19
      show some 0 = some (rInt q (nI k) hp)
      unfold rInt
      split
      · rename_i p; rw [if_pos p] at c19; exact absurd rfl c19
      · rfl
    · have c19 : ¬ (if bitAt (hp.1 10 (nI k).toNatClampNeg) q = 0 then (0 : Int32) else 1) = 0 := c19
      show hp = hInt q (nI k) hp
      unfold hInt
      rw [if_pos Z]
      split
      · rename_i p; rw [if_pos p] at c19; exact absurd rfl c19
      · rfl)
