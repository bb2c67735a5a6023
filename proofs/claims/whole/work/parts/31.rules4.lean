/-! ===== DieGraphs$Rules: a text becomes a rule ===== -/
theorem fSign_ok {hp : mm_Hp} (h : rdOk hp) (hk : ¬ fSign hp = -1) : rdOk (upPl hp) := by
  obtain ⟨t, p, ht, hpt, et, ep⟩ := h
  have hlt : p < t := by
    refine Nat.lt_of_not_le (fun q => hk ?_)
    unfold fSign
    rw [et, ep, if_pos ((nI_leI (by omega) (by omega)).mpr q)]
  have h1 : upPl hp = plH hp (p + 1) := by
    have := upPl_plH hp p
    rw [plH_self ep] at this
    exact this
  rw [h1]
  exact rdOk_pl ht hlt et
theorem fKind_m1 : fKind (-1) = 0 := by decide
theorem upPl_as (hp : mm_Hp) : ∃ g, upPl hp = sR hp 4 g ∧ g 2 = hp.1 4 2 ∧ g 8 = hp.1 4 8 := by
  refine ⟨upd (hp.1 4) 3 (hp.1 4 3 + 1), up_as hp 4 3 _, ?_, ?_⟩ <;> simp [upd]
theorem upPl_8 (hp : mm_Hp) : (upPl hp).1 4 8 = hp.1 4 8 := by
  obtain ⟨g, e, -, h8⟩ := upPl_as hp
  rw [e, sR_at]; exact h8
theorem upPl_2 (hp : mm_Hp) : (upPl hp).1 4 2 = hp.1 4 2 := by
  obtain ⟨g, e, h2, -⟩ := upPl_as hp
  rw [e, sR_at]; exact h2
theorem upPl_ne {hp : mm_Hp} {c : Nat} (h : c ≠ 4) : (upPl hp).1 c = hp.1 c := by
  obtain ⟨g, e, -, -⟩ := upPl_as hp
  rw [e, sR_ne h]
theorem hNum_8 (hp : mm_Hp) : (hNum hp).1 4 8 = hp.1 4 8 := plH_8 hp _
theorem hNum_2 (hp : mm_Hp) : (hNum hp).1 4 2 = hp.1 4 2 := plH_2 hp _
theorem hNum_ne {hp : mm_Hp} {c : Nat} (h : c ≠ 4) : (hNum hp).1 c = hp.1 c := plH_ne h
theorem hNum_rd {hp : mm_Hp} (h : rdOk hp) : rdOk (hNum hp) := by
  obtain ⟨t, p, ht, hpt, et, ep⟩ := h
  have h1 : txN hp = t := by unfold txN; rw [et]; exact nIc (by omega)
  have h2 : plN hp = p := by unfold plN; rw [ep]; exact nIc (by omega)
  unfold hNum
  rw [h1, h2]
  exact rdOk_pl ht ((fNumF_le _ t 7 p 0).2.1 hpt) et
def slotN (hp : mm_Hp) : Nat := (hp.1 4 8 * 20 + hp.1 23 (hp.1 4 8).toNatClampNeg).toNatClampNeg
def addH (hp : mm_Hp) (k v : Int32) : mm_Hp := (mm_up (mm_up (mm_up hp.1 21 (slotN hp) k) 22 (slotN hp) v) 23 (rlN hp) (hp.1 23 (rlN hp) + 1), hp.2)
def cdOk (hp : mm_Hp) (c : Nat) : Prop := ∃ s, s < 12 ∧ c < 20 ∧ hp.1 4 8 = nI s ∧ hp.1 23 s = nI c
theorem cdOk.slot {hp : mm_Hp} {c : Nat} (h : cdOk hp c) : vp_in (hp.1 4 8) 12 ∧ vp_in (hp.1 4 8 * 20 + hp.1 23 (hp.1 4 8).toNatClampNeg) 240 := by
  obtain ⟨s, hs, hc, es, ec⟩ := h
  refine ⟨by rw [es]; exact nIv hs (by omega), ?_⟩
  rw [es, nIc (by omega), ec, show (20 : Int32) = nI 20 from rfl, pk_mul, nI_add]
  exact nIv (by omega) (by omega)
theorem M_R_readCondition_g {E : En} (hE : EOk E) (rv : mm_Hp → Int32) (sg : mm_Hp → mm_Hp) (h0 : ∀ hp, fKind (fSign hp) = 0 → rv hp = 0 ∧ sg hp = hp) (h1 : ∀ hp, ¬ fKind (fSign hp) = 0 → fSign hp = 120 → rv hp = 1 ∧ sg hp = addH (upPl hp) (fSign hp) 0)
    (h2 : ∀ hp, ¬ fKind (fSign hp) = 0 → ¬ fSign hp = 120 → rNum (upPl hp) = -1 → rv hp = 0 ∧ sg hp = hNum (upPl hp)) (h3 : ∀ hp, ¬ fKind (fSign hp) = 0 → ¬ fSign hp = 120 → ¬ rNum (upPl hp) = -1 → rv hp = 1 ∧ sg hp = addH (hNum (upPl hp)) (fSign hp) (rNum (upPl hp))) (hrB : ∀ hp, isB (rv hp)) :
    Mt E yR_readCondition cR_readCondition 4 (some .boolean) 3 (ct0 4 1 (fun hp => rdOk hp ∧ ∃ c, cdOk hp c) (fun _ => 0) rv sg) :=
  metS (n := 80) (tab := tR_readCondition) (cals := [(104, sR_sign), (127, sR_isKind), (132, sR_readNumber)]) hE flR_ok pfR_ok csR_ok rfl (by decide) kR_readCondition rfl (cf_v 52 (lR_52 (M_R_sign hE) (by decide) ct0_t rfl) (cf_s 63 (lR_63 (M_R_isKind hE) (by decide) rfl) (cf_v 66 (lR_66 (M_R_readNumber hE) (by decide) ct0_t rfl) cf_nil))) (rt_z0 (fun hp _ => hrB hp)) ct0_c (Nat.le_of_ble_eq_true rfl) rfl (fun as hp hl h => by
    obtain ⟨rfl, hrd, c, hcd⟩ := ct0_s h
    have hcd1 : cdOk (upPl hp) c := by
      obtain ⟨s, hs, hc, es, ec⟩ := hcd
      exact ⟨s, hs, hc, (upPl_8 hp).trans es, by rw [upPl_ne (by omega)]; exact ec⟩
    have hcd2 : cdOk (hNum (upPl hp)) c := by
      obtain ⟨s, hs, hc, es, ec⟩ := hcd1
      exact ⟨s, hs, hc, (hNum_8 _).trans es, by rw [hNum_ne (by omega)]; exact ec⟩
    refine ⟨⟨rfl, hrd⟩, fun r1 => ⟨trivial, fun r6 => ⟨fun c9 => ?_, fun c9 => ⟨rfl, ?_, ?_⟩⟩, fun e6 x6 => no0 x6⟩, fun e1 x1 => no0 x1⟩
    · have c9 : ¬ fKind (fSign hp) = 0 := c9
      have hrd1 : rdOk (upPl hp) := fSign_ok hrd (fun q => c9 (by rw [q]; exact fKind_m1))
      refine ⟨fun c27 => ⟨⟨rfl, hrd1⟩, fun r35 => ⟨fun c41 => ⟨hcd2.slot.1, ⟨hcd2.slot.2, ⟨hcd2.slot.2, ⟨hcd2.slot.1, ⟨hcd2.slot.1, ⟨rfl, ?_, ?_⟩⟩⟩⟩⟩⟩, fun c41 => ⟨rfl, ?_, ?_⟩⟩, fun e35 x35 => no0 x35⟩, fun c27 => ⟨fun c41 => ⟨hcd1.slot.1, ⟨hcd1.slot.2, ⟨hcd1.slot.2, ⟨hcd1.slot.1, ⟨hcd1.slot.1, ⟨rfl, ?_, ?_⟩⟩⟩⟩⟩⟩, fun c41 => absurd c41 (by decide)⟩⟩
      · have c27 : ¬ fSign hp = 120 := c27
        have c41 : ¬ rNum (upPl hp) = -1 := c41
        exact congrArg some (h3 hp c9 c27 c41).1.symm
      · have c27 : ¬ fSign hp = 120 := c27
        have c41 : ¬ rNum (upPl hp) = -1 := c41
        exact (h3 hp c9 c27 c41).2.symm
      · have c27 : ¬ fSign hp = 120 := c27
        have c41 : rNum (upPl hp) = -1 := c41
        exact congrArg some (h2 hp c9 c27 c41).1.symm
      · have c27 : ¬ fSign hp = 120 := c27
        have c41 : rNum (upPl hp) = -1 := c41
        exact (h2 hp c9 c27 c41).2.symm
      · have c27 : fSign hp = 120 := c27
        exact congrArg some (h1 hp c9 c27).1.symm
      · have c27 : fSign hp = 120 := c27
        exact (h1 hp c9 c27).2.symm
    · have c9 : fKind (fSign hp) = 0 := c9
      exact congrArg some (h0 hp c9).1.symm
    · have c9 : fKind (fSign hp) = 0 := c9
      exact (h0 hp c9).2.symm)
def rCd (hp : mm_Hp) : Int32 := if fKind (fSign hp) = 0 then 0 else if fSign hp = 120 then 1 else if rNum (upPl hp) = -1 then 0 else 1
def hCd (hp : mm_Hp) : mm_Hp := if fKind (fSign hp) = 0 then hp else if fSign hp = 120 then addH (upPl hp) (fSign hp) 0 else if rNum (upPl hp) = -1 then hNum (upPl hp) else addH (hNum (upPl hp)) (fSign hp) (rNum (upPl hp))
theorem rCd_B (hp : mm_Hp) : isB (rCd hp) := by
  unfold rCd
  split
  · exact Or.inl rfl
  · split
    · exact Or.inr rfl
    · exact isB_if
def sR_readCondition : mm_Ct := ct0 4 1 (fun hp => rdOk hp ∧ ∃ c, cdOk hp c) (fun _ => 0) rCd hCd
theorem M_R_readCondition {E : En} (hE : EOk E) : Mt E yR_readCondition cR_readCondition 4 (some .boolean) 3 sR_readCondition :=
  M_R_readCondition_g hE rCd hCd (fun hp h => ⟨if_pos h, if_pos h⟩) (fun hp n h => ⟨(if_neg n).trans (if_pos h), (if_neg n).trans (if_pos h)⟩) (fun hp n n2 h => ⟨(if_neg n).trans ((if_neg n2).trans (if_pos h)), (if_neg n).trans ((if_neg n2).trans (if_pos h))⟩) (fun hp n n2 n3 => ⟨(if_neg n).trans ((if_neg n2).trans (if_neg n3)), (if_neg n).trans ((if_neg n2).trans (if_neg n3))⟩) rCd_B
theorem addH_ne {hp : mm_Hp} {k v : Int32} {c : Nat} (h1 : c ≠ 21) (h2 : c ≠ 22) (h3 : c ≠ 23) : (addH hp k v).1 c = hp.1 c := by
  unfold addH
  show mm_up _ 23 _ _ c = _
  rw [mm_up_n h3, mm_up_n h2, mm_up_n h1]
theorem addH_cd {hp : mm_Hp} {k v : Int32} {c s : Nat} (hs : s < 12) (es : hp.1 4 8 = nI s) (ec : hp.1 23 s = nI c) : (addH hp k v).1 4 8 = nI s ∧ (addH hp k v).1 23 s = nI (c + 1) := by
  refine ⟨by rw [addH_ne (by omega) (by omega) (by omega)]; exact es, ?_⟩
  have hr : rlN hp = s := by unfold rlN; rw [es]; exact nIc (by omega)
  unfold addH
  show mm_up _ 23 _ _ 23 s = _
  rw [mm_up_s, mm_up_n (by omega), mm_up_n (by omega), hr, ec, nI_1]
  simp [upd]
theorem rdOk_of {hp hp' : mm_Hp} (h : rdOk hp) (e : hp'.1 4 = hp.1 4) : rdOk hp' := by
  obtain ⟨t, p, h1, h2, h3, h4⟩ := h
  exact ⟨t, p, h1, h2, by rw [e]; exact h3, by rw [e]; exact h4⟩
/-- behind a condition that was read -/
theorem hCd_ok {hp : mm_Hp} {c s : Nat} (hrd : rdOk hp) (hs : s < 12) (es : hp.1 4 8 = nI s) (ec : hp.1 23 s = nI c) (hr : ¬ rCd hp = 0) : rdOk (hCd hp) ∧ (hCd hp).1 4 8 = nI s ∧ (hCd hp).1 23 s = nI (c + 1) := by
  unfold rCd at hr
  unfold hCd
  split at hr
  · exact absurd rfl hr
  · rename_i n1
    have hrd1 : rdOk (upPl hp) := fSign_ok hrd (fun q => n1 (by rw [q]; exact fKind_m1))
    have es1 : (upPl hp).1 4 8 = nI s := (upPl_8 hp).trans es
    have ec1 : (upPl hp).1 23 s = nI c := by rw [upPl_ne (by omega)]; exact ec
    rw [if_neg n1]
    split at hr
    · rename_i n2
      rw [if_pos n2]
      exact ⟨rdOk_of hrd1 (addH_ne (by omega) (by omega) (by omega)), addH_cd hs es1 ec1⟩
    · rename_i n2
      rw [if_neg n2]
      split at hr
      · exact absurd rfl hr
      · rename_i n3
        rw [if_neg n3]
        exact ⟨rdOk_of (hNum_rd hrd1) (addH_ne (by omega) (by omega) (by omega)), addH_cd hs ((hNum_8 _).trans es1) (by rw [hNum_ne (by omega)]; exact ec1)⟩
/-- n conditions more may be read -/
def fCdsF : Nat → mm_Hp → Int32 × mm_Hp
  | 0, h => (0, h)
  | n + 1, h => if rCd h = 0 then (0, hCd h) else if fSign (hCd h) = 44 then fCdsF n (upPl (hCd h)) else (1, hCd h)
def hCd0 (hp : mm_Hp) : mm_Hp := (mm_up hp.1 23 (rlN hp) 0, hp.2)
def fCds (hp : mm_Hp) : Int32 × mm_Hp := if fSign (hCd0 hp) = 58 then (1, hCd0 hp) else fCdsF 20 (hCd0 hp)
theorem fCdsF_B : ∀ n h, isB (fCdsF n h).1
  | 0, _ => Or.inl rfl
  | n + 1, h => by
    show isB (if rCd h = 0 then (0, hCd h) else if fSign (hCd h) = 44 then fCdsF n (upPl (hCd h)) else (1, hCd h)).1
    split
    · exact Or.inl rfl
    · split
      · exact fCdsF_B n _
      · exact Or.inr rfl
theorem fCds_B (hp : mm_Hp) : isB (fCds hp).1 := by
  unfold fCds
  split
  · exact Or.inr rfl
  · exact fCdsF_B 20 _
theorem M_R_readConditions_g {E : En} (hE : EOk E) (rv : mm_Hp → Int32) (sg : mm_Hp → mm_Hp) (hrv : ∀ hp q, fCds hp = q → rv hp = q.1 ∧ sg hp = q.2) (hrB : ∀ hp, isB (rv hp)) :
    Mt E yR_readConditions cR_readConditions 2 (some .boolean) 4 (ct0 4 1 (fun hp => rdOk hp ∧ ∃ s, s < 12 ∧ hp.1 4 8 = nI s) (fun _ => 0) rv sg) :=
  met (n := 60) (tab := tR_readConditions) (cals := [(104, sR_sign), (112, sR_readCondition), (118, sR_take)]) hE flR_ok pfR_ok csR_ok rfl (by decide) kR_readConditions rfl (cf_v 52 (lR_52 (M_R_sign hE) (by decide) ct0_t rfl) (cf_v 56 (lR_56 (M_R_readCondition hE) (by decide) ct0_t rfl) (cf_v 59 (lR_59 (M_R_take hE) (by decide) ct1_t rfl) cf_nil))) (rt_z0 (fun hp _ => hrB hp)) ct0_c (Nat.le_of_ble_eq_true rfl) rfl
    (fun as hp pc => cond (Nat.beq pc 23) (some (fun L hp' => ∃ (s i : Nat) (x : Int32), s < 12 ∧ hp'.1 4 8 = nI s ∧ hp'.1 23 s = nI i ∧ rdOk hp' ∧ i ≤ 20 ∧ L = [some (.ref 4), some (.int x)] ∧ x = nI i ∧ fCdsF (20 - i) hp' = fCds hp)) none) (fun _ L _ => msk 100 1 L)
    (fun as hp hl h => by
      obtain ⟨rfl, hrd, s, hs, es⟩ := ct0_s h
      have hrs : rlN hp = s := by unfold rlN; rw [es]; exact nIc (by omega)
      have hrd0 : rdOk (hCd0 hp) := rdOk_of hrd (show mm_up hp.1 23 (rlN hp) 0 4 = hp.1 4 from mm_up_n (by omega))
      have es0 : (hCd0 hp).1 4 8 = nI s := by
        show mm_up hp.1 23 (rlN hp) 0 4 8 = nI s
        rw [mm_up_n (by omega)]; exact es
      have ec0 : (hCd0 hp).1 23 s = nI 0 := by
        show mm_up hp.1 23 (rlN hp) 0 23 s = nI 0
        rw [mm_up_s, hrs]
        simp [upd]
        rfl
      refine ⟨?_, ⟨⟨rfl, hrd0⟩, fun r11 => ⟨fun c16 => ⟨rfl, s, 0, _, hs, es0, ec0, hrd0, by omega, rfl, rfl, ?_⟩, fun c16 => ⟨rfl, ?_, ?_⟩⟩, fun e11 x11 => no0 x11⟩⟩
      · show vp_in (hp.1 4 8) 12
        rw [es]; exact nIv hs (by omega)
      · have c16 : ¬ fSign (hCd0 hp) = 58 := c16
        exact (if_neg c16).symm
      · have c16 : fSign (hCd0 hp) = 58 := c16
        exact congrArg some ((hrv hp _ (if_pos c16)).1).symm
      · have c16 : fSign (hCd0 hp) = 58 := c16
        exact ((hrv hp _ (if_pos c16)).2).symm)
    (fun as hp hl h pc P hq L hp' hL _ => by
      obtain ⟨rfl, hP⟩ := ct0_s h
      obtain ⟨rfl, rfl⟩ := at1 hq
      obtain ⟨s, i, x, hs, es, ec, hrd, hi, rfl, ex, ee⟩ := hL
      refine ⟨fun c26 => ?_, fun c26 => ?_⟩
      · have := cge ex (n := 20) rfl (by omega) (by omega) c26
        have hi2 : i = 20 := by omega
        rw [hi2, Nat.sub_self] at ee
        obtain ⟨q1, q2⟩ := hrv hp _ ee.symm
        exact ⟨rfl, congrArg some q1.symm, q2.symm⟩
      · have hlt := clt ex (n := 20) rfl (by omega) (by omega) c26
        have hu : fCdsF (20 - i) hp' = if rCd hp' = 0 then (0, hCd hp') else if fSign (hCd hp') = 44 then fCdsF (20 - (i + 1)) (upPl (hCd hp')) else (1, hCd hp') := by
          rw [show 20 - i = (20 - (i + 1)) + 1 by omega]; rfl
        refine ⟨⟨rfl, hrd, i, s, hs, hlt, es, ec⟩, fun r30 => ⟨fun c33 => ?_, fun c33 => ?_⟩, fun e30 x30 => no0 x30⟩
        · have c33 : ¬ rCd hp' = 0 := c33
          obtain ⟨k1, k2, k3⟩ := hCd_ok hrd hs es ec c33
          refine ⟨⟨rfl, k1⟩, fun r41 => ⟨fun c44 => ?_, fun c44 => ?_⟩, fun e41 x41 => no0 x41⟩
          · have c44 : ¬ (if fSign (hCd hp') = 44 then (1 : Int32) else 0) = 0 := c44
            have h44 : fSign (hCd hp') = 44 := by
              by_cases q : fSign (hCd hp') = 44
              · exact q
              · rw [if_neg q] at c44; exact absurd rfl c44
            refine ⟨rfl, ⟨s, i + 1, x + 1, hs, ?_, ?_, ?_, by omega, rfl, inc1 ex, ?_⟩, dec1 ex (by omega) (by omega)⟩
            · show (if fSign (hCd hp') = 44 then upPl (hCd hp') else hCd hp').1 4 8 = nI s
              rw [if_pos h44, upPl_8]; exact k2
            · show (if fSign (hCd hp') = 44 then upPl (hCd hp') else hCd hp').1 23 s = nI (i + 1)
              rw [if_pos h44, upPl_ne (by omega)]; exact k3
            · show rdOk (if fSign (hCd hp') = 44 then upPl (hCd hp') else hCd hp')
              rw [if_pos h44]
              exact fSign_ok k1 (by rw [h44]; decide)
            · show fCdsF (20 - (i + 1)) (if fSign (hCd hp') = 44 then upPl (hCd hp') else hCd hp') = fCds hp
              rw [if_pos h44, ← ee, hu, if_neg c33, if_pos h44]
          · have c44 : (if fSign (hCd hp') = 44 then (1 : Int32) else 0) = 0 := c44
            have h44 : ¬ fSign (hCd hp') = 44 := by
              intro q
              rw [if_pos q] at c44
              exact absurd c44 (by decide)
            obtain ⟨q1, q2⟩ := hrv hp (1, hCd hp') (by rw [← ee, hu, if_neg c33, if_neg h44])
            refine ⟨rfl, congrArg some q1.symm, ?_⟩
            show (if fSign (hCd hp') = 44 then upPl (hCd hp') else hCd hp') = sg hp
            rw [if_neg h44]; exact q2.symm
        · have c33 : rCd hp' = 0 := c33
          obtain ⟨q1, q2⟩ := hrv hp (0, hCd hp') (by rw [← ee, hu, if_pos c33])
          exact ⟨rfl, congrArg some q1.symm, q2.symm⟩)
def sR_readConditions : mm_Ct := ct0 4 1 (fun hp => rdOk hp ∧ ∃ s, s < 12 ∧ hp.1 4 8 = nI s) (fun _ => 0) (fun hp => (fCds hp).1) (fun hp => (fCds hp).2)
theorem M_R_readConditions {E : En} (hE : EOk E) : Mt E yR_readConditions cR_readConditions 2 (some .boolean) 4 sR_readConditions :=
  M_R_readConditions_g hE (fun hp => (fCds hp).1) (fun hp => (fCds hp).2) (fun hp q h => by rw [h]; exact ⟨rfl, rfl⟩) fCds_B
