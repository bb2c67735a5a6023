/-! ===== DieGraphs$Rules: the text becomes a rule; DieGraphs.rule ===== -/
def tyH (hp : mm_Hp) : mm_Hp := (mm_up (hNum hp).1 24 (rlN hp) (rNum hp), (hNum hp).2)
theorem M_R_readType_g {E : En} (hE : EOk E) (tk : Int32 → mm_Hp → Int32) (tkh : Int32 → mm_Hp → mm_Hp) (hMT : Mt E yR_take cR_take 2 (some .boolean) 2 (ct1 4 1 (fun _ hp => rdOk hp) (fun _ _ => 0) tk tkh)) (rn : mm_Hp → Int32) (hn : mm_Hp → mm_Hp) (hMN : Mt E yR_readNumber cR_readNumber 3 (some .int) 2 (ct0 4 1 rdOk (fun _ => 0) rn hn))
    (htk : ∀ hp, rdOk hp → ¬ tk 58 hp = 0 → rdOk (tkh 58 hp) ∧ (tkh 58 hp).1 4 8 = hp.1 4 8) (hn8 : ∀ hp, (hn hp).1 4 8 = hp.1 4 8)
    (rv : mm_Hp → Int32) (sg : mm_Hp → mm_Hp) (h0 : ∀ hp, tk 58 hp = 0 → rv hp = 0 ∧ sg hp = tkh 58 hp) (h1 : ∀ hp, ¬ tk 58 hp = 0 → rn (tkh 58 hp) = -1 → rv hp = 0) (h2 : ∀ hp, ¬ tk 58 hp = 0 → ¬ rn (tkh 58 hp) = -1 → rv hp = 1) (h3 : ∀ hp, ¬ tk 58 hp = 0 → sg hp = (mm_up (hn (tkh 58 hp)).1 24 ((tkh 58 hp).1 4 8).toNatClampNeg (rn (tkh 58 hp)), (hn (tkh 58 hp)).2)) (hrB : ∀ hp, isB (rv hp)) :
    Mt E yR_readType cR_readType 1 (some .boolean) 3 (ct0 4 1 (fun hp => rdOk hp ∧ ∃ s, s < 12 ∧ hp.1 4 8 = nI s) (fun _ => 0) rv sg) :=
  metS (n := 60) (tab := tR_readType) (cals := [(118, ct1 4 1 (fun _ hp => rdOk hp) (fun _ _ => 0) tk tkh), (132, ct0 4 1 rdOk (fun _ => 0) rn hn)]) hE flR_ok pfR_ok csR_ok rfl (by decide) kR_readType rfl (cf_v 59 (lR_59 hMT (by decide) ct1_t rfl) (cf_v 66 (lR_66 hMN (by decide) ct0_t rfl) cf_nil)) (rt_z0 (fun hp _ => hrB hp)) ct0_c (Nat.le_of_ble_eq_true rfl) rfl (fun as hp hl h => by
    obtain ⟨rfl, hrd, s, hs, es⟩ := ct0_s h
    refine ⟨⟨rfl, hrd⟩, fun r3 => ⟨fun c6 => ?_, fun c6 => ?_⟩, fun e3 x3 => no0 x3⟩
    · have c6 : ¬ tk 58 hp = 0 := c6
      obtain ⟨hrd1, e8⟩ := htk hp hrd c6
      have es1 : (tkh 58 hp).1 4 8 = nI s := e8.trans es
      have e24 : ∀ x, mm_up (hn (tkh 58 hp)).1 24 ((tkh 58 hp).1 4 8).toNatClampNeg x 4 8 = nI s := fun x => by rw [mm_up_n (by omega), hn8]; exact es1
      have v24 : mm_up (hn (tkh 58 hp)).1 24 ((tkh 58 hp).1 4 8).toNatClampNeg (rn (tkh 58 hp)) 24 (mm_up (hn (tkh 58 hp)).1 24 ((tkh 58 hp).1 4 8).toNatClampNeg (rn (tkh 58 hp)) 4 8).toNatClampNeg = rn (tkh 58 hp) := by
        rw [e24, es1, mm_up_s]; simp [upd]
      refine ⟨⟨rfl, hrd1⟩, fun r20 => ⟨?_, ⟨?_, ⟨fun c34 => ⟨rfl, ?_, (h3 hp c6).symm⟩, fun c34 => ⟨rfl, ?_, (h3 hp c6).symm⟩⟩⟩⟩, fun e20 x20 => no0 x20⟩
      · show vp_in ((tkh 58 hp).1 4 8) 12
        rw [es1]; exact nIv hs (by omega)
      · show vp_in (mm_up (hn (tkh 58 hp)).1 24 ((tkh 58 hp).1 4 8).toNatClampNeg (rn (tkh 58 hp)) 4 8) 12
        rw [e24]; exact nIv hs (by omega)
      · exact congrArg some (h1 hp c6 (v24.symm.trans c34)).symm
      · exact congrArg some (h2 hp c6 (fun q => c34 (v24.trans q))).symm
    · have c6 : tk 58 hp = 0 := c6
      exact ⟨rfl, congrArg some (h0 hp c6).1.symm, (h0 hp c6).2.symm⟩)
def rTy (hp : mm_Hp) : Int32 := if fSign hp = 58 then (if rNum (upPl hp) = -1 then 0 else 1) else 0
def hTy (hp : mm_Hp) : mm_Hp := if fSign hp = 58 then tyH (upPl hp) else hp
theorem rTy_B (hp : mm_Hp) : isB (rTy hp) := by
  unfold rTy
  split
  · exact isB_if
  · exact Or.inl rfl
def sR_readType : mm_Ct := ct0 4 1 (fun hp => rdOk hp ∧ ∃ s, s < 12 ∧ hp.1 4 8 = nI s) (fun _ => 0) rTy hTy
theorem tk_ne {hp : mm_Hp} (h : ¬ (if fSign hp = 58 then (1 : Int32) else 0) = 0) : fSign hp = 58 := by
  by_cases q : fSign hp = 58
  · exact q
  · rw [if_neg q] at h; exact absurd rfl h
theorem tk_eq {hp : mm_Hp} (h : (if fSign hp = 58 then (1 : Int32) else 0) = 0) : ¬ fSign hp = 58 := by
  intro q
  rw [if_pos q] at h
  exact absurd h (by decide)
theorem M_R_readType {E : En} (hE : EOk E) : Mt E yR_readType cR_readType 1 (some .boolean) 3 sR_readType := by
  refine M_R_readType_g hE (fun w hp => if fSign hp = w then 1 else 0) (fun w hp => if fSign hp = w then upPl hp else hp) (M_R_take hE) rNum hNum (M_R_readNumber hE) (fun hp hrd h => ?_) hNum_8 rTy hTy (fun hp h => ?_) (fun hp h h1 => ?_) (fun hp h h1 => ?_) (fun hp h => ?_) rTy_B
  · have e := tk_ne h
    rw [if_pos e]
    exact ⟨fSign_ok hrd (by rw [e]; decide), upPl_8 hp⟩
  · have e := tk_eq h
    exact ⟨if_neg e, (if_neg e).trans (if_neg e).symm⟩
  · have e := tk_ne h
    rw [if_pos e] at h1
    exact (if_pos e).trans (if_pos h1)
  · have e := tk_ne h
    rw [if_pos e] at h1
    exact (if_pos e).trans (if_neg h1)
  · have e := tk_ne h
    rw [if_pos e]
    exact if_pos e
theorem fCdsF_ok {s : Nat} (hs : s < 12) : ∀ (n : Nat) (h : mm_Hp), n ≤ 20 → rdOk h → h.1 4 8 = nI s → h.1 23 s = nI (20 - n) → ¬ (fCdsF n h).1 = 0 → rdOk (fCdsF n h).2 ∧ (fCdsF n h).2.1 4 8 = nI s
  | 0, h, hn, hrd, es, ec, hr => absurd rfl hr
  | n + 1, h, hn, hrd, es, ec, hr => by
    have hu : fCdsF (n + 1) h = if rCd h = 0 then (0, hCd h) else if fSign (hCd h) = 44 then fCdsF n (upPl (hCd h)) else (1, hCd h) := rfl
    rw [hu] at hr ⊢
    by_cases h1 : rCd h = 0
    · rw [if_pos h1] at hr
      exact absurd rfl hr
    · rw [if_neg h1] at hr ⊢
      obtain ⟨k1, k2, k3⟩ := hCd_ok hrd hs es ec h1
      by_cases h2 : fSign (hCd h) = 44
      · rw [if_pos h2] at hr ⊢
        exact fCdsF_ok hs n _ (by omega) (fSign_ok k1 (by rw [h2]; decide)) ((upPl_8 _).trans k2) (by rw [upPl_ne (by omega), k3]; congr 1; omega) hr
      · rw [if_neg h2]
        exact ⟨k1, k2⟩
theorem fCds_ok {hp : mm_Hp} {s : Nat} (hrd : rdOk hp) (hs : s < 12) (es : hp.1 4 8 = nI s) (hr : ¬ (fCds hp).1 = 0) : rdOk (fCds hp).2 ∧ (fCds hp).2.1 4 8 = nI s := by
  have hrs : rlN hp = s := by unfold rlN; rw [es]; exact nIc (by omega)
  have hrd0 : rdOk (hCd0 hp) := rdOk_of hrd (show mm_up hp.1 23 (rlN hp) 0 4 = hp.1 4 from mm_up_n (by omega))
  have es0 : (hCd0 hp).1 4 8 = nI s := by
    show mm_up hp.1 23 (rlN hp) 0 4 8 = nI s
    rw [mm_up_n (by omega)]; exact es
  have ec0 : (hCd0 hp).1 23 s = nI 0 := by
    show mm_up hp.1 23 (rlN hp) 0 23 s = nI 0
    rw [mm_up_s, hrs]
    simp [upd]
    rfl
  unfold fCds at hr ⊢
  by_cases h1 : fSign (hCd0 hp) = 58
  · rw [if_pos h1]
    exact ⟨hrd0, es0⟩
  · rw [if_neg h1] at hr ⊢
    exact fCdsF_ok hs 20 _ (by omega) hrd0 es0 ec0 hr
def endF (h : mm_Hp) : Int32 × mm_Hp := (-1 - h.1 4 3, (mm_up h.1 4 2 0, h.2))
def endT (h : mm_Hp) : Int32 × mm_Hp := (h.1 4 8 + 1 - 1, (mm_up (mm_up h.1 4 2 0) 4 8 (h.1 4 8 + 1), h.2))
def p0H (hp : mm_Hp) : mm_Hp := (mm_up hp.1 4 3 0, hp.2)
def fRT (hp : mm_Hp) : Int32 × mm_Hp := if (fCds (p0H hp)).1 = 0 then endF (fCds (p0H hp)).2 else if rTy (fCds (p0H hp)).2 = 0 then endF (hTy (fCds (p0H hp)).2) else if (hTy (fCds (p0H hp)).2).1 4 3 = (hTy (fCds (p0H hp)).2).1 4 2 then endT (hTy (fCds (p0H hp)).2) else endF (hTy (fCds (p0H hp)).2)
theorem p0_ok {hp : mm_Hp} (h : txOk hp) : rdOk (p0H hp) := by
  obtain ⟨t, ht, et⟩ := h
  refine ⟨t, 0, ht, by omega, ?_, ?_⟩
  · show mm_up hp.1 4 3 0 4 2 = nI t
    rw [mm_up_s, ← et]; rfl
  · show mm_up hp.1 4 3 0 4 3 = nI 0
    rw [mm_up_s]; rfl
theorem p0_8 (hp : mm_Hp) : (p0H hp).1 4 8 = hp.1 4 8 := by
  show mm_up hp.1 4 3 0 4 8 = _
  rw [mm_up_s]; rfl
theorem M_R_readText_g {E : En} (hE : EOk E) (rc : mm_Hp → Int32) (hc : mm_Hp → mm_Hp) (hMC : Mt E yR_readConditions cR_readConditions 2 (some .boolean) 4 (ct0 4 1 (fun hp => rdOk hp ∧ ∃ s, s < 12 ∧ hp.1 4 8 = nI s) (fun _ => 0) rc hc)) (ry : mm_Hp → Int32) (hy : mm_Hp → mm_Hp) (hMY : Mt E yR_readType cR_readType 1 (some .boolean) 3 (ct0 4 1 (fun hp => rdOk hp ∧ ∃ s, s < 12 ∧ hp.1 4 8 = nI s) (fun _ => 0) ry hy))
    (hok : ∀ hp s, rdOk hp → s < 12 → hp.1 4 8 = nI s → ¬ rc hp = 0 → rdOk (hc hp) ∧ (hc hp).1 4 8 = nI s) (rv : mm_Hp → Int32) (sg : mm_Hp → mm_Hp) (h1 : ∀ hp, rc (p0H hp) = 0 → rv hp = (endF (hc (p0H hp))).1 ∧ sg hp = (endF (hc (p0H hp))).2) (h2 : ∀ hp, ¬ rc (p0H hp) = 0 → ry (hc (p0H hp)) = 0 → rv hp = (endF (hy (hc (p0H hp)))).1 ∧ sg hp = (endF (hy (hc (p0H hp)))).2)
    (h3 : ∀ hp, ¬ rc (p0H hp) = 0 → ¬ ry (hc (p0H hp)) = 0 → ¬ (hy (hc (p0H hp))).1 4 3 = (hy (hc (p0H hp))).1 4 2 → rv hp = (endF (hy (hc (p0H hp)))).1 ∧ sg hp = (endF (hy (hc (p0H hp)))).2) (h4 : ∀ hp, ¬ rc (p0H hp) = 0 → ¬ ry (hc (p0H hp)) = 0 → (hy (hc (p0H hp))).1 4 3 = (hy (hc (p0H hp))).1 4 2 → rv hp = (endT (hy (hc (p0H hp)))).1 ∧ sg hp = (endT (hy (hc (p0H hp)))).2) :
    Mt E yR_readText cR_readText 2 (some .int) 5 (ct0 4 1 (fun hp => txOk hp ∧ ∃ s, s < 12 ∧ hp.1 4 8 = nI s) (fun _ => 0) rv sg) :=
  metS (n := 60) (tab := tR_readText) (cals := [(82, ct0 4 1 (fun hp => rdOk hp ∧ ∃ s, s < 12 ∧ hp.1 4 8 = nI s) (fun _ => 0) rc hc), (90, ct0 4 1 (fun hp => rdOk hp ∧ ∃ s, s < 12 ∧ hp.1 4 8 = nI s) (fun _ => 0) ry hy)]) hE flR_ok pfR_ok csR_ok rfl (by decide) kR_readText rfl (cf_v 41 (lR_41 hMC (by decide) ct0_t rfl) (cf_v 45 (lR_45 hMY (by decide) ct0_t rfl) cf_nil)) (rt_i rfl) ct0_c (Nat.le_of_ble_eq_true rfl) rfl (fun as hp hl h => by
    obtain ⟨rfl, htx, s, hs, es⟩ := ct0_s h
    have hrd : rdOk (p0H hp) := p0_ok htx
    have es1 : (p0H hp).1 4 8 = nI s := (p0_8 hp).trans es
    refine ⟨⟨rfl, hrd, s, hs, es1⟩, fun r6 => ⟨fun c9 => ⟨fun c42 => absurd rfl c42, fun c42 => ?_⟩, fun c9 => ?_⟩, fun e6 x6 => no0 x6⟩
    · have c9 : rc (p0H hp) = 0 := c9
      exact ⟨rfl, congrArg some (h1 hp c9).1.symm, (h1 hp c9).2.symm⟩
    · have c9 : ¬ rc (p0H hp) = 0 := c9
      obtain ⟨k1, k2⟩ := hok _ s hrd hs es1 c9
      refine ⟨⟨rfl, k1, s, hs, k2⟩, fun r13 => ⟨fun c16 => ⟨fun c42 => absurd rfl c42, fun c42 => ?_⟩, fun c16 => ⟨fun c27 => ⟨fun c42 => absurd rfl c42, fun c42 => ?_⟩, fun c27 => ⟨fun c42 => ?_, fun c42 => absurd c42 (by decide)⟩⟩⟩, fun e13 x13 => no0 x13⟩
      · have c16 : ry (hc (p0H hp)) = 0 := c16
        exact ⟨rfl, congrArg some (h2 hp c9 c16).1.symm, (h2 hp c9 c16).2.symm⟩
      · have c16 : ¬ ry (hc (p0H hp)) = 0 := c16
        have c27 : ¬ (hy (hc (p0H hp))).1 4 3 = (hy (hc (p0H hp))).1 4 2 := c27
        exact ⟨rfl, congrArg some (h3 hp c9 c16 c27).1.symm, (h3 hp c9 c16 c27).2.symm⟩
      · have c16 : ¬ ry (hc (p0H hp)) = 0 := c16
        have c27 : (hy (hc (p0H hp))).1 4 3 = (hy (hc (p0H hp))).1 4 2 := c27
        exact ⟨rfl, congrArg some (h4 hp c9 c16 c27).1.symm, (h4 hp c9 c16 c27).2.symm⟩)
def sR_readText : mm_Ct := ct0 4 1 (fun hp => txOk hp ∧ ∃ s, s < 12 ∧ hp.1 4 8 = nI s) (fun _ => 0) (fun hp => (fRT hp).1) (fun hp => (fRT hp).2)
theorem M_R_readText {E : En} (hE : EOk E) : Mt E yR_readText cR_readText 2 (some .int) 5 sR_readText := by
  refine M_R_readText_g hE (fun hp => (fCds hp).1) (fun hp => (fCds hp).2) (M_R_readConditions hE) rTy hTy (M_R_readType hE) (fun hp s a b c d => fCds_ok a b c d) (fun hp => (fRT hp).1) (fun hp => (fRT hp).2) (fun hp h => ?_) (fun hp h h2 => ?_) (fun hp h h2 h3 => ?_) (fun hp h h2 h3 => ?_)
  · have : fRT hp = endF (fCds (p0H hp)).2 := if_pos h
    exact ⟨congrArg Prod.fst this, congrArg Prod.snd this⟩
  · have : fRT hp = endF (hTy (fCds (p0H hp)).2) := (if_neg h).trans (if_pos h2)
    exact ⟨congrArg Prod.fst this, congrArg Prod.snd this⟩
  · have : fRT hp = endF (hTy (fCds (p0H hp)).2) := (if_neg h).trans ((if_neg h2).trans (if_neg h3))
    exact ⟨congrArg Prod.fst this, congrArg Prod.snd this⟩
  · have : fRT hp = endT (hTy (fCds (p0H hp)).2) := (if_neg h).trans ((if_neg h2).trans (if_pos h3))
    exact ⟨congrArg Prod.fst this, congrArg Prod.snd this⟩
def xRl (hp : mm_Hp) : Nat := if 12 ≤ hp.1 4 8 then 3 else 0
theorem M_G_rule_g {E : En} (hE : EOk E) (rt : mm_Hp → Int32) (ht : mm_Hp → mm_Hp) (hMT : Mt E yR_readText cR_readText 2 (some .int) 5 (ct0 4 1 (fun hp => txOk hp ∧ ∃ s, s < 12 ∧ hp.1 4 8 = nI s) (fun _ => 0) rt ht)) (rv : mm_Hp → Int32) (sg : mm_Hp → mm_Hp) (hq : ∀ hp, xRl hp = 0 → rv hp = rt hp ∧ sg hp = ht hp) (hx : ∀ hp x, xRl hp = x + 1 → sg hp = hp) :
    Mt E yG_rule cG_rule 1 (some .int) 9 (ct0 0 1 (fun hp => txOk hp ∧ rlOk hp) xRl rv sg) :=
  metGS (n := 60) (tab := tG_rule) (cals := [(374, sR_size), (380, ct0 4 1 (fun hp => txOk hp ∧ ∃ s, s < 12 ∧ hp.1 4 8 = nI s) (fun _ => 0) rt ht)]) hE rfl (by decide) (by decide) kG_rule rfl (cf_v 187 (lG_187 (M_R_size hE) (by decide) ct0_t rfl) (cf_v 190 (lG_190 hMT (by decide) ct0_t rfl) cf_nil)) (rt_i rfl) ct0_c (Nat.le_of_ble_eq_true rfl) rfl (fun as hp hl h => by
    obtain ⟨rfl, htx, hrl⟩ := ct0_s h
    refine ⟨⟨rfl, trivial⟩, fun r4 => ⟨fun c9 => ?_, fun c9 => ?_⟩, fun e4 x4 => no0 x4⟩
    · have c9 : hp.1 4 8 < 12 := c9
      have Z : xRl hp = 0 := if_neg (lt_nge c9)
      obtain ⟨n, hn, en, ez⟩ := rlE hrl
      have hn2 : n < 12 := by
        rw [en] at c9
        exact (nI_ltI (a := n) (b := 12) (by omega) (by omega)).mp c9
      obtain ⟨q1, q2⟩ := hq hp Z
      exact ⟨⟨rfl, htx, n, hn2, en⟩, fun r26 => ⟨Z, congrArg some q1.symm, q2.symm⟩, fun e26 x26 => no0 x26⟩
    · have c9 : ¬ hp.1 4 8 < 12 := c9
      have Z : xRl hp = 3 := if_pos (nlt_ge c9)
      exact ⟨rfl, Z, (hx hp 2 Z).symm⟩)
def sG_rule : mm_Ct := ct0 0 1 (fun hp => txOk hp ∧ rlOk hp) xRl (fun hp => (fRT hp).1) (fun hp => if xRl hp = 0 then (fRT hp).2 else hp)
theorem M_G_rule {E : En} (hE : EOk E) : Mt E yG_rule cG_rule 1 (some .int) 9 sG_rule :=
  M_G_rule_g hE (fun hp => (fRT hp).1) (fun hp => (fRT hp).2) (M_R_readText hE) (fun hp => (fRT hp).1) (fun hp => if xRl hp = 0 then (fRT hp).2 else hp) (fun hp h0 => ⟨rfl, if_pos h0⟩) (fun hp x h => if_neg (by omega))
