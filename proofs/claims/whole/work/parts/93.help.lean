/-! ===== the law's helpers, one by one (by wip/whole/gen92.py) ===== -/
def ch0 (P : mm_Hp → Prop) (tx : mm_Hp → Nat) (cd : Nat → Int32) (wv : Int32 → Int64) (rv : mm_Hp → Int32) (sg : mm_Hp → mm_Hp) : mm_Ct := (2, 1, 1, fun as hp => match as with
  | [.ref j, .ref o] => j = 0 ∧ o = 43 ∧ P hp
  | _ => False, fun _ _ => 0, fun as hp => match as with
  | [_, _] => cd (tx hp)
  | _ => 0, fun as hp => match as with
  | [_, _] => outH wv (tx hp) (rv hp) (sg hp)
  | _ => hp)
theorem ch0_s {P : mm_Hp → Prop} {tx : mm_Hp → Nat} {cd : Nat → Int32} {wv : Int32 → Int64} {rv : mm_Hp → Int32} {sg : mm_Hp → mm_Hp} {as : List Value} {hp : mm_Hp} (h : (ch0 P tx cd wv rv sg).2.2.2.1 as hp) : as = [.ref 0, .ref 43] ∧ P hp := by
  unfold ch0 at h
  dsimp only at h
  split at h
  · obtain ⟨rfl, rfl, h⟩ := h
    exact ⟨rfl, h⟩
  · exact h.elim
theorem ch0_c {P : mm_Hp → Prop} {tx : mm_Hp → Nat} {cd : Nat → Int32} {wv : Int32 → Int64} {rv : mm_Hp → Int32} {sg : mm_Hp → mm_Hp} : ∀ as hp, (ch0 P tx cd wv rv sg).2.2.2.1 as hp → ∀ v ∈ as, mm_c1 v = true := by
  intro as hp h
  obtain ⟨rfl, -⟩ := ch0_s h
  intro v hv
  simp at hv
  rcases hv with rfl | rfl <;> rfl
def ch1 (P : Int32 → mm_Hp → Prop) (tx : Int32 → mm_Hp → Nat) (cd : Nat → Int32) (wv : Int32 → Int64) (rv : Int32 → mm_Hp → Int32) (sg : Int32 → mm_Hp → mm_Hp) : mm_Ct := (3, 1, 1, fun as hp => match as with
  | [.ref j, .int a, .ref o] => j = 0 ∧ o = 43 ∧ P a hp
  | _ => False, fun _ _ => 0, fun as hp => match as with
  | [_, .int a, _] => cd (tx a hp)
  | _ => 0, fun as hp => match as with
  | [_, .int a, _] => outH wv (tx a hp) (rv a hp) (sg a hp)
  | _ => hp)
theorem ch1_s {P : Int32 → mm_Hp → Prop} {tx : Int32 → mm_Hp → Nat} {cd : Nat → Int32} {wv : Int32 → Int64} {rv : Int32 → mm_Hp → Int32} {sg : Int32 → mm_Hp → mm_Hp} {as : List Value} {hp : mm_Hp} (h : (ch1 P tx cd wv rv sg).2.2.2.1 as hp) : ∃ a, as = [.ref 0, .int a, .ref 43] ∧ P a hp := by
  unfold ch1 at h
  dsimp only at h
  split at h
  · obtain ⟨rfl, rfl, h⟩ := h
    exact ⟨_, rfl, h⟩
  · exact h.elim
theorem ch1_c {P : Int32 → mm_Hp → Prop} {tx : Int32 → mm_Hp → Nat} {cd : Nat → Int32} {wv : Int32 → Int64} {rv : Int32 → mm_Hp → Int32} {sg : Int32 → mm_Hp → mm_Hp} : ∀ as hp, (ch1 P tx cd wv rv sg).2.2.2.1 as hp → ∀ v ∈ as, mm_c1 v = true := by
  intro as hp h
  obtain ⟨a, rfl, -⟩ := ch1_s h
  intro v hv
  simp at hv
  rcases hv with rfl | rfl | rfl <;> rfl
def ch2 (P : Int32 → Int32 → mm_Hp → Prop) (tx : Int32 → Int32 → mm_Hp → Nat) (cd : Nat → Int32) (wv : Int32 → Int64) (rv : Int32 → Int32 → mm_Hp → Int32) (sg : Int32 → Int32 → mm_Hp → mm_Hp) : mm_Ct := (4, 1, 1, fun as hp => match as with
  | [.ref j, .int a, .int b, .ref o] => j = 0 ∧ o = 43 ∧ P a b hp
  | _ => False, fun _ _ => 0, fun as hp => match as with
  | [_, .int a, .int b, _] => cd (tx a b hp)
  | _ => 0, fun as hp => match as with
  | [_, .int a, .int b, _] => outH wv (tx a b hp) (rv a b hp) (sg a b hp)
  | _ => hp)
theorem ch2_s {P : Int32 → Int32 → mm_Hp → Prop} {tx : Int32 → Int32 → mm_Hp → Nat} {cd : Nat → Int32} {wv : Int32 → Int64} {rv : Int32 → Int32 → mm_Hp → Int32} {sg : Int32 → Int32 → mm_Hp → mm_Hp} {as : List Value} {hp : mm_Hp} (h : (ch2 P tx cd wv rv sg).2.2.2.1 as hp) : ∃ a b, as = [.ref 0, .int a, .int b, .ref 43] ∧ P a b hp := by
  unfold ch2 at h
  dsimp only at h
  split at h
  · obtain ⟨rfl, rfl, h⟩ := h
    exact ⟨_, _, rfl, h⟩
  · exact h.elim
theorem ch2_c {P : Int32 → Int32 → mm_Hp → Prop} {tx : Int32 → Int32 → mm_Hp → Nat} {cd : Nat → Int32} {wv : Int32 → Int64} {rv : Int32 → Int32 → mm_Hp → Int32} {sg : Int32 → Int32 → mm_Hp → mm_Hp} : ∀ as hp, (ch2 P tx cd wv rv sg).2.2.2.1 as hp → ∀ v ∈ as, mm_c1 v = true := by
  intro as hp h
  obtain ⟨a, b, rfl, -⟩ := ch2_s h
  intro v hv
  simp at hv
  rcases hv with rfl | rfl | rfl | rfl <;> rfl
def ch4 (P : Int32 → Int32 → Int32 → Int32 → mm_Hp → Prop) (tx : Int32 → Int32 → Int32 → Int32 → mm_Hp → Nat) (cd : Nat → Int32) (wv : Int32 → Int64) (rv : Int32 → Int32 → Int32 → Int32 → mm_Hp → Int32) (sg : Int32 → Int32 → Int32 → Int32 → mm_Hp → mm_Hp) : mm_Ct := (6, 1, 1, fun as hp => match as with
  | [.ref j, .int a, .int b, .int c, .int d, .ref o] => j = 0 ∧ o = 43 ∧ P a b c d hp
  | _ => False, fun _ _ => 0, fun as hp => match as with
  | [_, .int a, .int b, .int c, .int d, _] => cd (tx a b c d hp)
  | _ => 0, fun as hp => match as with
  | [_, .int a, .int b, .int c, .int d, _] => outH wv (tx a b c d hp) (rv a b c d hp) (sg a b c d hp)
  | _ => hp)
theorem ch4_s {P : Int32 → Int32 → Int32 → Int32 → mm_Hp → Prop} {tx : Int32 → Int32 → Int32 → Int32 → mm_Hp → Nat} {cd : Nat → Int32} {wv : Int32 → Int64} {rv : Int32 → Int32 → Int32 → Int32 → mm_Hp → Int32} {sg : Int32 → Int32 → Int32 → Int32 → mm_Hp → mm_Hp} {as : List Value} {hp : mm_Hp} (h : (ch4 P tx cd wv rv sg).2.2.2.1 as hp) : ∃ a b c d, as = [.ref 0, .int a, .int b, .int c, .int d, .ref 43] ∧ P a b c d hp := by
  unfold ch4 at h
  dsimp only at h
  split at h
  · obtain ⟨rfl, rfl, h⟩ := h
    exact ⟨_, _, _, _, rfl, h⟩
  · exact h.elim
theorem ch4_c {P : Int32 → Int32 → Int32 → Int32 → mm_Hp → Prop} {tx : Int32 → Int32 → Int32 → Int32 → mm_Hp → Nat} {cd : Nat → Int32} {wv : Int32 → Int64} {rv : Int32 → Int32 → Int32 → Int32 → mm_Hp → Int32} {sg : Int32 → Int32 → Int32 → Int32 → mm_Hp → mm_Hp} : ∀ as hp, (ch4 P tx cd wv rv sg).2.2.2.1 as hp → ∀ v ∈ as, mm_c1 v = true := by
  intro as hp h
  obtain ⟨a, b, c, d, rfl, -⟩ := ch4_s h
  intro v hv
  simp at hv
  rcases hv with rfl | rfl | rfl | rfl | rfl | rfl <;> rfl
def cd1 (x : Nat) : Int32 := if x = 0 then 0 else 1
def wvB (v : Int32) : Int64 := if v = 0 then 0 else 1
theorem xCoin_1 (c : Int32) (hp : mm_Hp) : xCoin c hp ≤ 1 := by unfold xCoin; split <;> omega
theorem xHoard_1 (c : Int32) (hp : mm_Hp) : xHoard c hp ≤ 1 := by unfold xHoard; split <;> omega
theorem xDie_1 (c : Int32) : xDie c ≤ 1 := by unfold xDie; split <;> omega
theorem xSide_1 (c : Int32) : xSide c ≤ 1 := by unfold xSide; split <;> omega
theorem xPlace_1 (c : Int32) : xPlace c ≤ 1 := by unfold xPlace; split <;> omega
theorem xCt_1 (c : Int32) : xCt c ≤ 1 := by unfold xCt; split <;> omega
theorem xOne_2 (a b : Int32) : xOne a b ≤ 2 := by unfold xOne; split <;> omega
theorem xOrd_2 (a b : Int32) : xOrd a b ≤ 2 := by
  have := xOne_2 a b; have := xDie_1 a; have := xDie_1 b
  unfold xOrd; split
  · split <;> omega
  · omega
theorem xRw_3 (a b : Int32) (hp : mm_Hp) : xRw a b hp ≤ 3 := by
  have := xOrd_2 a b
  unfold xRw; split
  · split <;> omega
  · omega
theorem xWr_2 (a b c : Int32) (hp : mm_Hp) : xWr a b c hp ≤ 2 := by
  have := xCoin_1 a hp; have := xSide_1 b
  unfold xWr; split
  · split
    · split <;> omega
    · omega
  · omega
theorem xCn_3 (a b c : Int32) (hp : mm_Hp) : xCn a b c hp ≤ 3 := by
  unfold xCn
  split
  · omega
  · split
    · omega
    · split
      · omega
      · split <;> omega
theorem xDs_1 (a b : Int32) : xDs a b ≤ 1 := by
  have := xSide_1 a; have := xSide_1 b
  unfold xDs; split <;> omega
theorem xMn_1 (a b : Int32) : xMn a b ≤ 1 := by
  have := xDie_1 a; have := xSide_1 b
  unfold xMn; split <;> omega
theorem xInt_1 (a b : Int32) (hp : mm_Hp) : xInt a b hp ≤ 1 := by
  have := xHoard_1 a hp; have := xCoin_1 b hp
  unfold xInt; split <;> omega
theorem xOv_1 (a b c : Int32) (hp : mm_Hp) : xOv a b c hp ≤ 1 := by
  have := xHoard_1 a hp; have := xHoard_1 b hp; have := xSide_1 c
  unfold xOv; split
  · split <;> omega
  · omega
theorem xLk_1 (a b : Int32) (hp : mm_Hp) : xLk a b hp ≤ 1 := by
  have := xCoin_1 a hp; have := xPlace_1 b
  unfold xLk; split <;> omega
theorem xHrd_3 (hp : mm_Hp) : xHrd hp = 0 ∨ xHrd hp = 3 := by unfold xHrd; split <;> omega
theorem xRl_3 (hp : mm_Hp) : xRl hp = 0 ∨ xRl hp = 3 := by unfold xRl; split <;> omega
theorem xUn_3 (a b c d : Int32) (hp : mm_Hp) : xUn a b c d hp = 0 ∨ xUn a b c d hp = 3 := by unfold xUn; split <;> omega
theorem M_L_coin_g {E : En} (hE : EOk E) (P : Int32 → Int32 → Int32 → mm_Hp → Prop) (tx : Int32 → Int32 → Int32 → mm_Hp → Nat) (rv : Int32 → Int32 → Int32 → mm_Hp → Int32) (sg : Int32 → Int32 → Int32 → mm_Hp → mm_Hp) (hM : Mt E yG_coin cG_coin 4 (some .int) 9 (ct3 0 1 P tx rv sg)) (hc : ∀ a b c hp, tx a b c hp ≤ 3) : MtH E yL_coin cL_coin 6 eL_coin 10 (ch3 P tx cdI wvI rv sg) :=
  metL (n := 60) (tab := tL_coin) (cals := [(14, ct3 0 1 P tx rv sg)]) (hnd := hnd3 7 15 19 23) hE rfl (by decide) kL_coin rfl (cf_v 7 (lL_7 hM (by decide) ct3_t rfl) cf_nil) (hs3 hE rfl rfl rfl) rfl ch3_c (Nat.le_of_ble_eq_true rfl) (fun _ _ => rfl) (fun as hp hl h => by
    obtain ⟨a, b, c, rfl, hP⟩ := ch3_s h
    refine ⟨⟨rfl, hP⟩, fun r => ⟨v01, ⟨rfl, ?_, ?_⟩⟩, fun e x => ?_⟩
    · have r : tx a b c hp = 0 := r
      show some (0 : Int32) = some (cdI (tx a b c hp))
      rw [r]; rfl
    · have r : tx a b c hp = 0 := r
      show ((sg a b c hp).1, mm_upL (sg a b c hp).2 43 0 (wvI (rv a b c hp))) = outH wvI (tx a b c hp) (rv a b c hp) (sg a b c hp)
      unfold outH
      rw [if_pos r]
    · have x : tx a b c hp = e + 1 := x
      have hle := hc a b c hp
      have so : outH wvI (tx a b c hp) (rv a b c hp) (sg a b c hp) = sg a b c hp := by unfold outH; rw [if_neg (by omega)]
      rcases (by omega : e = 0 ∨ e = 1 ∨ e = 2) with rfl | rfl | rfl
      · refine ⟨rfl, ?_, so.symm⟩
        show some (1 : Int32) = some (cdI (tx a b c hp))
        rw [x]; rfl
      · refine ⟨rfl, ?_, so.symm⟩
        show some (2 : Int32) = some (cdI (tx a b c hp))
        rw [x]; rfl
      · refine ⟨rfl, ?_, so.symm⟩
        show some (3 : Int32) = some (cdI (tx a b c hp))
        rw [x]; rfl)
def sL_coin : mm_Ct := ch3 (fun _ _ _ hp => szOk hp) xCn cdI wvI (fun _ _ _ hp => hp.1 1 7) hCn
theorem M_L_coin {E : En} (hE : EOk E) : MtH E yL_coin cL_coin 6 eL_coin 10 sL_coin := M_L_coin_g hE _ _ _ _ (M_G_coin hE) (xCn_3)
theorem M_L_doubt_g {E : En} (hE : EOk E) (P : Int32 → Int32 → mm_Hp → Prop) (tx : Int32 → Int32 → mm_Hp → Nat) (rv : Int32 → Int32 → mm_Hp → Int32) (sg : Int32 → Int32 → mm_Hp → mm_Hp) (hM : Mt E yG_doubt cG_doubt 3 (some .boolean) 9 (ct2 0 1 P tx rv sg)) (hc : ∀ a b hp, tx a b hp ≤ 1) : MtH E yL_doubt cL_doubt 5 eL_doubt 10 (ch2 P tx cdI wvB rv sg) :=
  metL (n := 60) (tab := tL_doubt) (cals := [(38, ct2 0 1 P tx rv sg)]) (hnd := hnd1 5 0 20) hE rfl (by decide) kL_doubt rfl (cf_v 19 (lL_19 hM (by decide) ct2_t rfl) cf_nil) (hs1 (x := 0) hE (by omega) rfl) rfl ch2_c (Nat.le_of_ble_eq_true rfl) (fun _ _ => rfl) (fun as hp hl h => by
    obtain ⟨a, b, rfl, hP⟩ := ch2_s h
    refine ⟨⟨rfl, hP⟩, fun r => ⟨fun cq => ⟨v01, ⟨rfl, ?_, ?_⟩⟩, fun cq => ⟨v01, ⟨rfl, ?_, ?_⟩⟩⟩, fun e x => ?_⟩
    · have r : tx a b hp = 0 := r
      show some (0 : Int32) = some (cdI (tx a b hp))
      rw [r]; rfl
    · have r : tx a b hp = 0 := r
      have cq : rv a b hp = 0 := cq
      show ((sg a b hp).1, mm_upL (sg a b hp).2 43 0 0) = outH wvB (tx a b hp) (rv a b hp) (sg a b hp)
      unfold outH wvB
      rw [if_pos r, if_pos cq]
    · have r : tx a b hp = 0 := r
      show some (0 : Int32) = some (cdI (tx a b hp))
      rw [r]; rfl
    · have r : tx a b hp = 0 := r
      have cq : ¬ rv a b hp = 0 := cq
      show ((sg a b hp).1, mm_upL (sg a b hp).2 43 0 1) = outH wvB (tx a b hp) (rv a b hp) (sg a b hp)
      unfold outH wvB
      rw [if_pos r, if_neg cq]
    · have x : tx a b hp = e + 1 := x
      have hle := hc a b hp
      have so : outH wvB (tx a b hp) (rv a b hp) (sg a b hp) = sg a b hp := by unfold outH; rw [if_neg (by omega)]
      have e0 : e = 0 := by omega
      subst e0
      refine ⟨rfl, ?_, so.symm⟩
      show some (1 : Int32) = some (cdI (tx a b hp))
      rw [x]; rfl)
def sL_doubt : mm_Ct := ch2 (fun _ b hp => prOk hp ∧ isB b) (fun c _ hp => xCoin c hp) cdI wvB (fun c b hp => (fDb c b hp).1) (fun c b hp => if xCoin c hp = 0 then (fDb c b hp).2 else hp)
theorem M_L_doubt {E : En} (hE : EOk E) : MtH E yL_doubt cL_doubt 5 eL_doubt 10 sL_doubt := M_L_doubt_g hE _ _ _ _ (M_G_doubt hE) (fun a _ hp => xCoin_1 a hp)
theorem M_L_wear_g {E : En} (hE : EOk E) (P : Int32 → Int32 → Int32 → mm_Hp → Prop) (tx : Int32 → Int32 → Int32 → mm_Hp → Nat) (rv : Int32 → Int32 → Int32 → mm_Hp → Int32) (sg : Int32 → Int32 → Int32 → mm_Hp → mm_Hp) (hM : Mt E yG_wear cG_wear 5 (some .boolean) 9 (ct3 0 1 P tx rv sg)) (hc : ∀ a b c hp, tx a b c hp ≤ 2) : MtH E yL_wear cL_wear 6 eL_wear 10 (ch3 P tx cdI wvB rv sg) :=
  metL (n := 60) (tab := tL_wear) (cals := [(46, ct3 0 1 P tx rv sg)]) (hnd := hnd2 7 22 26) hE rfl (by decide) kL_wear rfl (cf_v 23 (lL_23 hM (by decide) ct3_t rfl) cf_nil) (hs2 hE rfl rfl) rfl ch3_c (Nat.le_of_ble_eq_true rfl) (fun _ _ => rfl) (fun as hp hl h => by
    obtain ⟨a, b, c, rfl, hP⟩ := ch3_s h
    refine ⟨⟨rfl, hP⟩, fun r => ⟨fun cq => ⟨v01, ⟨rfl, ?_, ?_⟩⟩, fun cq => ⟨v01, ⟨rfl, ?_, ?_⟩⟩⟩, fun e x => ?_⟩
    · have r : tx a b c hp = 0 := r
      show some (0 : Int32) = some (cdI (tx a b c hp))
      rw [r]; rfl
    · have r : tx a b c hp = 0 := r
      have cq : rv a b c hp = 0 := cq
      show ((sg a b c hp).1, mm_upL (sg a b c hp).2 43 0 0) = outH wvB (tx a b c hp) (rv a b c hp) (sg a b c hp)
      unfold outH wvB
      rw [if_pos r, if_pos cq]
    · have r : tx a b c hp = 0 := r
      show some (0 : Int32) = some (cdI (tx a b c hp))
      rw [r]; rfl
    · have r : tx a b c hp = 0 := r
      have cq : ¬ rv a b c hp = 0 := cq
      show ((sg a b c hp).1, mm_upL (sg a b c hp).2 43 0 1) = outH wvB (tx a b c hp) (rv a b c hp) (sg a b c hp)
      unfold outH wvB
      rw [if_pos r, if_neg cq]
    · have x : tx a b c hp = e + 1 := x
      have hle := hc a b c hp
      have so : outH wvB (tx a b c hp) (rv a b c hp) (sg a b c hp) = sg a b c hp := by unfold outH; rw [if_neg (by omega)]
      rcases (by omega : e = 0 ∨ e = 1) with rfl | rfl
      · refine ⟨rfl, ?_, so.symm⟩
        show some (1 : Int32) = some (cdI (tx a b c hp))
        rw [x]; rfl
      · refine ⟨rfl, ?_, so.symm⟩
        show some (2 : Int32) = some (cdI (tx a b c hp))
        rw [x]; rfl)
def sL_wear : mm_Ct := ch3 (fun _ _ _ hp => prOk hp) xWr cdI wvB (fun c s t hp => (fWr c s t hp).1) (fun c s t hp => if xWr c s t hp = 0 then (fWr c s t hp).2 else hp)
theorem M_L_wear {E : En} (hE : EOk E) : MtH E yL_wear cL_wear 6 eL_wear 10 sL_wear := M_L_wear_g hE _ _ _ _ (M_G_wear hE) (xWr_2)
theorem M_L_row_g {E : En} (hE : EOk E) (P : Int32 → Int32 → mm_Hp → Prop) (tx : Int32 → Int32 → mm_Hp → Nat) (rv : Int32 → Int32 → mm_Hp → Int32) (sg : Int32 → Int32 → mm_Hp → mm_Hp) (hM : Mt E yG_row cG_row 3 (some .boolean) 9 (ct2 0 1 P tx rv sg)) (hc : ∀ a b hp, tx a b hp ≤ 3) : MtH E yL_row cL_row 5 eL_row 10 (ch2 P tx cdI wvB rv sg) :=
  metL (n := 60) (tab := tL_row) (cals := [(54, ct2 0 1 P tx rv sg)]) (hnd := hnd3 5 20 24 28) hE rfl (by decide) kL_row rfl (cf_v 27 (lL_27 hM (by decide) ct2_t rfl) cf_nil) (hs3 hE rfl rfl rfl) rfl ch2_c (Nat.le_of_ble_eq_true rfl) (fun _ _ => rfl) (fun as hp hl h => by
    obtain ⟨a, b, rfl, hP⟩ := ch2_s h
    refine ⟨⟨rfl, hP⟩, fun r => ⟨fun cq => ⟨v01, ⟨rfl, ?_, ?_⟩⟩, fun cq => ⟨v01, ⟨rfl, ?_, ?_⟩⟩⟩, fun e x => ?_⟩
    · have r : tx a b hp = 0 := r
      show some (0 : Int32) = some (cdI (tx a b hp))
      rw [r]; rfl
    · have r : tx a b hp = 0 := r
      have cq : rv a b hp = 0 := cq
      show ((sg a b hp).1, mm_upL (sg a b hp).2 43 0 0) = outH wvB (tx a b hp) (rv a b hp) (sg a b hp)
      unfold outH wvB
      rw [if_pos r, if_pos cq]
    · have r : tx a b hp = 0 := r
      show some (0 : Int32) = some (cdI (tx a b hp))
      rw [r]; rfl
    · have r : tx a b hp = 0 := r
      have cq : ¬ rv a b hp = 0 := cq
      show ((sg a b hp).1, mm_upL (sg a b hp).2 43 0 1) = outH wvB (tx a b hp) (rv a b hp) (sg a b hp)
      unfold outH wvB
      rw [if_pos r, if_neg cq]
    · have x : tx a b hp = e + 1 := x
      have hle := hc a b hp
      have so : outH wvB (tx a b hp) (rv a b hp) (sg a b hp) = sg a b hp := by unfold outH; rw [if_neg (by omega)]
      rcases (by omega : e = 0 ∨ e = 1 ∨ e = 2) with rfl | rfl | rfl
      · refine ⟨rfl, ?_, so.symm⟩
        show some (1 : Int32) = some (cdI (tx a b hp))
        rw [x]; rfl
      · refine ⟨rfl, ?_, so.symm⟩
        show some (2 : Int32) = some (cdI (tx a b hp))
        rw [x]; rfl
      · refine ⟨rfl, ?_, so.symm⟩
        show some (3 : Int32) = some (cdI (tx a b hp))
        rw [x]; rfl)
def sL_row : mm_Ct := ch2 (fun _ _ hp => prOk hp) xRw cdI wvB (fun a b hp => (fRw a b hp).1) (fun a b hp => if xRw a b hp = 0 then (fRw a b hp).2 else hp)
theorem M_L_row {E : En} (hE : EOk E) : MtH E yL_row cL_row 5 eL_row 10 sL_row := M_L_row_g hE _ _ _ _ (M_G_row hE) (xRw_3)
theorem M_L_ring_g {E : En} (hE : EOk E) (P : Int32 → mm_Hp → Prop) (tx : Int32 → mm_Hp → Nat) (rv : Int32 → mm_Hp → Int32) (sg : Int32 → mm_Hp → mm_Hp) (hM : Mt E yG_ring cG_ring 2 (some .int) 9 (ct1 0 1 P tx rv sg)) (hc : ∀ a hp, tx a hp ≤ 1) : MtH E yL_ring cL_ring 4 eL_ring 10 (ch1 P tx cdI wvI rv sg) :=
  metL (n := 60) (tab := tL_ring) (cals := [(62, ct1 0 1 P tx rv sg)]) (hnd := hnd1 4 0 12) hE rfl (by decide) kL_ring rfl (cf_v 31 (lL_31 hM (by decide) ct1_t rfl) cf_nil) (hs1 (x := 0) hE (by omega) rfl) rfl ch1_c (Nat.le_of_ble_eq_true rfl) (fun _ _ => rfl) (fun as hp hl h => by
    obtain ⟨a, rfl, hP⟩ := ch1_s h
    refine ⟨⟨rfl, hP⟩, fun r => ⟨v01, ⟨rfl, ?_, ?_⟩⟩, fun e x => ?_⟩
    · have r : tx a hp = 0 := r
      show some (0 : Int32) = some (cdI (tx a hp))
      rw [r]; rfl
    · have r : tx a hp = 0 := r
      show ((sg a hp).1, mm_upL (sg a hp).2 43 0 (wvI (rv a hp))) = outH wvI (tx a hp) (rv a hp) (sg a hp)
      unfold outH
      rw [if_pos r]
    · have x : tx a hp = e + 1 := x
      have hle := hc a hp
      have so : outH wvI (tx a hp) (rv a hp) (sg a hp) = sg a hp := by unfold outH; rw [if_neg (by omega)]
      have e0 : e = 0 := by omega
      subst e0
      refine ⟨rfl, ?_, so.symm⟩
      show some (1 : Int32) = some (cdI (tx a hp))
      rw [x]; rfl)
def sL_ring : mm_Ct := ch1 (fun _ hp => tlOk hp) (fun k _ => xPlace k) cdI wvI (fun p hp => if hp.1 3 9 ≤ p then -1 else hp.1 19 p.toNatClampNeg) (fun _ hp => hp)
theorem M_L_ring {E : En} (hE : EOk E) : MtH E yL_ring cL_ring 4 eL_ring 10 sL_ring := M_L_ring_g hE _ _ _ _ (M_G_ring hE) (fun a _ => xPlace_1 a)
theorem M_L_order_g {E : En} (hE : EOk E) (P : Int32 → Int32 → mm_Hp → Prop) (tx : Int32 → Int32 → mm_Hp → Nat) (rv : Int32 → Int32 → mm_Hp → Int32) (sg : Int32 → Int32 → mm_Hp → mm_Hp) (hM : Mt E yG_order cG_order 3 (some .int) 9 (ct2 0 1 P tx rv sg)) (hc : ∀ a b hp, tx a b hp ≤ 2) : MtH E yL_order cL_order 5 eL_order 10 (ch2 P tx cdI wvI rv sg) :=
  metL (n := 60) (tab := tL_order) (cals := [(70, ct2 0 1 P tx rv sg)]) (hnd := hnd2 5 13 17) hE rfl (by decide) kL_order rfl (cf_v 35 (lL_35 hM (by decide) ct2_t rfl) cf_nil) (hs2 hE rfl rfl) rfl ch2_c (Nat.le_of_ble_eq_true rfl) (fun _ _ => rfl) (fun as hp hl h => by
    obtain ⟨a, b, rfl, hP⟩ := ch2_s h
    refine ⟨⟨rfl, hP⟩, fun r => ⟨v01, ⟨rfl, ?_, ?_⟩⟩, fun e x => ?_⟩
    · have r : tx a b hp = 0 := r
      show some (0 : Int32) = some (cdI (tx a b hp))
      rw [r]; rfl
    · have r : tx a b hp = 0 := r
      show ((sg a b hp).1, mm_upL (sg a b hp).2 43 0 (wvI (rv a b hp))) = outH wvI (tx a b hp) (rv a b hp) (sg a b hp)
      unfold outH
      rw [if_pos r]
    · have x : tx a b hp = e + 1 := x
      have hle := hc a b hp
      have so : outH wvI (tx a b hp) (rv a b hp) (sg a b hp) = sg a b hp := by unfold outH; rw [if_neg (by omega)]
      rcases (by omega : e = 0 ∨ e = 1) with rfl | rfl
      · refine ⟨rfl, ?_, so.symm⟩
        show some (1 : Int32) = some (cdI (tx a b hp))
        rw [x]; rfl
      · refine ⟨rfl, ?_, so.symm⟩
        show some (2 : Int32) = some (cdI (tx a b hp))
        rw [x]; rfl)
def sL_order : mm_Ct := ch2 (fun _ _ hp => prOk hp) (fun a b _ => xOrd a b) cdI wvI rOrd (fun a b hp => if xOrd a b = 0 then fOrder hp else hp)
theorem M_L_order {E : En} (hE : EOk E) : MtH E yL_order cL_order 5 eL_order 10 sL_order := M_L_order_g hE _ _ _ _ (M_G_order hE) (fun a b _ => xOrd_2 a b)
theorem M_L_chain_g {E : En} (hE : EOk E) (P : Int32 → mm_Hp → Prop) (tx : Int32 → mm_Hp → Nat) (rv : Int32 → mm_Hp → Int32) (sg : Int32 → mm_Hp → mm_Hp) (hM : Mt E yG_chain cG_chain 2 (some .int) 9 (ct1 0 1 P tx rv sg)) (hc : ∀ a hp, tx a hp ≤ 1) : MtH E yL_chain cL_chain 4 eL_chain 10 (ch1 P tx cdI wvI rv sg) :=
  metL (n := 60) (tab := tL_chain) (cals := [(78, ct1 0 1 P tx rv sg)]) (hnd := hnd1 4 0 12) hE rfl (by decide) kL_chain rfl (cf_v 39 (lL_39 hM (by decide) ct1_t rfl) cf_nil) (hs1 (x := 0) hE (by omega) rfl) rfl ch1_c (Nat.le_of_ble_eq_true rfl) (fun _ _ => rfl) (fun as hp hl h => by
    obtain ⟨a, rfl, hP⟩ := ch1_s h
    refine ⟨⟨rfl, hP⟩, fun r => ⟨v01, ⟨rfl, ?_, ?_⟩⟩, fun e x => ?_⟩
    · have r : tx a hp = 0 := r
      show some (0 : Int32) = some (cdI (tx a hp))
      rw [r]; rfl
    · have r : tx a hp = 0 := r
      show ((sg a hp).1, mm_upL (sg a hp).2 43 0 (wvI (rv a hp))) = outH wvI (tx a hp) (rv a hp) (sg a hp)
      unfold outH
      rw [if_pos r]
    · have x : tx a hp = e + 1 := x
      have hle := hc a hp
      have so : outH wvI (tx a hp) (rv a hp) (sg a hp) = sg a hp := by unfold outH; rw [if_neg (by omega)]
      have e0 : e = 0 := by omega
      subst e0
      refine ⟨rfl, ?_, so.symm⟩
      show some (1 : Int32) = some (cdI (tx a hp))
      rw [x]; rfl)
def sL_chain : mm_Ct := ch1 (fun _ hp => cnOk hp) (fun d _ => xDie d) cdI wvI (fun d hp => (fBuild hp).2 d.toNatClampNeg) (fun d hp => if xDie d = 0 then hBuild hp else hp)
theorem M_L_chain {E : En} (hE : EOk E) : MtH E yL_chain cL_chain 4 eL_chain 10 sL_chain := M_L_chain_g hE _ _ _ _ (M_G_chain hE) (fun a _ => xDie_1 a)
theorem M_L_dies_g {E : En} (hE : EOk E) (P : Int32 → Int32 → mm_Hp → Prop) (tx : Int32 → Int32 → mm_Hp → Nat) (rv : Int32 → Int32 → mm_Hp → Int32) (sg : Int32 → Int32 → mm_Hp → mm_Hp) (hM : Mt E yG_dies cG_dies 8 (some .int) 9 (ct2 0 1 P tx rv sg)) (hc : ∀ a b hp, tx a b hp ≤ 1) : MtH E yL_dies cL_dies 5 eL_dies 10 (ch2 P tx cdI wvI rv sg) :=
  metL (n := 60) (tab := tL_dies) (cals := [(84, ct2 0 1 P tx rv sg)]) (hnd := hnd1 5 0 13) hE rfl (by decide) kL_dies rfl (cf_v 42 (lL_42 hM (by decide) ct2_t rfl) cf_nil) (hs1 (x := 0) hE (by omega) rfl) rfl ch2_c (Nat.le_of_ble_eq_true rfl) (fun _ _ => rfl) (fun as hp hl h => by
    obtain ⟨a, b, rfl, hP⟩ := ch2_s h
    refine ⟨⟨rfl, hP⟩, fun r => ⟨v01, ⟨rfl, ?_, ?_⟩⟩, fun e x => ?_⟩
    · have r : tx a b hp = 0 := r
      show some (0 : Int32) = some (cdI (tx a b hp))
      rw [r]; rfl
    · have r : tx a b hp = 0 := r
      show ((sg a b hp).1, mm_upL (sg a b hp).2 43 0 (wvI (rv a b hp))) = outH wvI (tx a b hp) (rv a b hp) (sg a b hp)
      unfold outH
      rw [if_pos r]
    · have x : tx a b hp = e + 1 := x
      have hle := hc a b hp
      have so : outH wvI (tx a b hp) (rv a b hp) (sg a b hp) = sg a b hp := by unfold outH; rw [if_neg (by omega)]
      have e0 : e = 0 := by omega
      subst e0
      refine ⟨rfl, ?_, so.symm⟩
      show some (1 : Int32) = some (cdI (tx a b hp))
      rw [x]; rfl)
def sL_dies : mm_Ct := ch2 (fun _ _ hp => szOk hp) (fun s p _ => xDs s p) cdI wvI fDs (fun _ _ hp => hp)
theorem M_L_dies {E : En} (hE : EOk E) : MtH E yL_dies cL_dies 5 eL_dies 10 sL_dies := M_L_dies_g hE _ _ _ _ (M_G_dies hE) (fun a b _ => xDs_1 a b)
theorem M_L_mean_g {E : En} (hE : EOk E) (P : Int32 → Int32 → mm_Hp → Prop) (tx : Int32 → Int32 → mm_Hp → Nat) (rv : Int32 → Int32 → mm_Hp → Int32) (sg : Int32 → Int32 → mm_Hp → mm_Hp) (hM : Mt E yG_mean cG_mean 7 (some .int) 9 (ct2 0 1 P tx rv sg)) (hc : ∀ a b hp, tx a b hp ≤ 1) : MtH E yL_mean cL_mean 5 eL_mean 10 (ch2 P tx cdI wvI rv sg) :=
  metL (n := 60) (tab := tL_mean) (cals := [(90, ct2 0 1 P tx rv sg)]) (hnd := hnd1 5 0 13) hE rfl (by decide) kL_mean rfl (cf_v 45 (lL_45 hM (by decide) ct2_t rfl) cf_nil) (hs1 (x := 0) hE (by omega) rfl) rfl ch2_c (Nat.le_of_ble_eq_true rfl) (fun _ _ => rfl) (fun as hp hl h => by
    obtain ⟨a, b, rfl, hP⟩ := ch2_s h
    refine ⟨⟨rfl, hP⟩, fun r => ⟨v01, ⟨rfl, ?_, ?_⟩⟩, fun e x => ?_⟩
    · have r : tx a b hp = 0 := r
      show some (0 : Int32) = some (cdI (tx a b hp))
      rw [r]; rfl
    · have r : tx a b hp = 0 := r
      show ((sg a b hp).1, mm_upL (sg a b hp).2 43 0 (wvI (rv a b hp))) = outH wvI (tx a b hp) (rv a b hp) (sg a b hp)
      unfold outH
      rw [if_pos r]
    · have x : tx a b hp = e + 1 := x
      have hle := hc a b hp
      have so : outH wvI (tx a b hp) (rv a b hp) (sg a b hp) = sg a b hp := by unfold outH; rw [if_neg (by omega)]
      have e0 : e = 0 := by omega
      subst e0
      refine ⟨rfl, ?_, so.symm⟩
      show some (1 : Int32) = some (cdI (tx a b hp))
      rw [x]; rfl)
def sL_mean : mm_Ct := ch2 (fun _ _ hp => cnOk hp) (fun d p _ => xMn d p) cdI wvI fMn (fun d p hp => if xMn d p = 0 then hBuild hp else hp)
theorem M_L_mean {E : En} (hE : EOk E) : MtH E yL_mean cL_mean 5 eL_mean 10 sL_mean := M_L_mean_g hE _ _ _ _ (M_G_mean hE) (fun a b _ => xMn_1 a b)
theorem M_L_hoard_g {E : En} (hE : EOk E) (P : mm_Hp → Prop) (tx : mm_Hp → Nat) (rv : mm_Hp → Int32) (sg : mm_Hp → mm_Hp) (hM : Mt E yG_hoard cG_hoard 1 (some .int) 9 (ct0 0 1 P tx rv sg)) (hc : ∀ hp, tx hp = 0 ∨ tx hp = 3) : MtH E yL_hoard cL_hoard 3 eL_hoard 10 (ch0 P tx cd1 wvI rv sg) :=
  metL (n := 60) (tab := tL_hoard) (cals := [(96, ct0 0 1 P tx rv sg)]) (hnd := hnd1 3 2 11) hE rfl (by decide) kL_hoard rfl (cf_v 48 (lL_48 hM (by decide) ct0_t rfl) cf_nil) (hs1 (x := 2) hE (by omega) rfl) rfl ch0_c (Nat.le_of_ble_eq_true rfl) (fun _ _ => rfl) (fun as hp hl h => by
    obtain ⟨rfl, hP⟩ := ch0_s h
    refine ⟨⟨rfl, hP⟩, fun r => ⟨v01, ⟨rfl, ?_, ?_⟩⟩, fun e x => ?_⟩
    · have r : tx hp = 0 := r
      show some (0 : Int32) = some (cd1 (tx hp))
      rw [r]; rfl
    · have r : tx hp = 0 := r
      show ((sg hp).1, mm_upL (sg hp).2 43 0 (wvI (rv hp))) = outH wvI (tx hp) (rv hp) (sg hp)
      unfold outH
      rw [if_pos r]
    · have x : tx hp = e + 1 := x
      have hle := hc hp
      have so : outH wvI (tx hp) (rv hp) (sg hp) = sg hp := by unfold outH; rw [if_neg (by omega)]
      have e0 : e = 2 := by omega
      subst e0
      refine ⟨rfl, ?_, so.symm⟩
      show some (1 : Int32) = some (cd1 (tx hp))
      rw [x]; rfl)
def sL_hoard : mm_Ct := ch0 (fun _ => True) xHrd cd1 wvI (fun hp => hp.1 0 4 + 1 - 1) hHrd
theorem M_L_hoard {E : En} (hE : EOk E) : MtH E yL_hoard cL_hoard 3 eL_hoard 10 sL_hoard := M_L_hoard_g hE _ _ _ _ (M_G_hoard hE) (xHrd_3)
theorem M_L_into_g {E : En} (hE : EOk E) (P : Int32 → Int32 → mm_Hp → Prop) (tx : Int32 → Int32 → mm_Hp → Nat) (rv : Int32 → Int32 → mm_Hp → Int32) (sg : Int32 → Int32 → mm_Hp → mm_Hp) (hM : Mt E yG_into cG_into 3 (some .boolean) 9 (ct2 0 1 P tx rv sg)) (hc : ∀ a b hp, tx a b hp ≤ 1) : MtH E yL_into cL_into 5 eL_into 10 (ch2 P tx cdI wvB rv sg) :=
  metL (n := 60) (tab := tL_into) (cals := [(104, ct2 0 1 P tx rv sg)]) (hnd := hnd1 5 0 20) hE rfl (by decide) kL_into rfl (cf_v 52 (lL_52 hM (by decide) ct2_t rfl) cf_nil) (hs1 (x := 0) hE (by omega) rfl) rfl ch2_c (Nat.le_of_ble_eq_true rfl) (fun _ _ => rfl) (fun as hp hl h => by
    obtain ⟨a, b, rfl, hP⟩ := ch2_s h
    refine ⟨⟨rfl, hP⟩, fun r => ⟨fun cq => ⟨v01, ⟨rfl, ?_, ?_⟩⟩, fun cq => ⟨v01, ⟨rfl, ?_, ?_⟩⟩⟩, fun e x => ?_⟩
    · have r : tx a b hp = 0 := r
      show some (0 : Int32) = some (cdI (tx a b hp))
      rw [r]; rfl
    · have r : tx a b hp = 0 := r
      have cq : rv a b hp = 0 := cq
      show ((sg a b hp).1, mm_upL (sg a b hp).2 43 0 0) = outH wvB (tx a b hp) (rv a b hp) (sg a b hp)
      unfold outH wvB
      rw [if_pos r, if_pos cq]
    · have r : tx a b hp = 0 := r
      show some (0 : Int32) = some (cdI (tx a b hp))
      rw [r]; rfl
    · have r : tx a b hp = 0 := r
      have cq : ¬ rv a b hp = 0 := cq
      show ((sg a b hp).1, mm_upL (sg a b hp).2 43 0 1) = outH wvB (tx a b hp) (rv a b hp) (sg a b hp)
      unfold outH wvB
      rw [if_pos r, if_neg cq]
    · have x : tx a b hp = e + 1 := x
      have hle := hc a b hp
      have so : outH wvB (tx a b hp) (rv a b hp) (sg a b hp) = sg a b hp := by unfold outH; rw [if_neg (by omega)]
      have e0 : e = 0 := by omega
      subst e0
      refine ⟨rfl, ?_, so.symm⟩
      show some (1 : Int32) = some (cdI (tx a b hp))
      rw [x]; rfl)
def sL_into : mm_Ct := ch2 (fun _ _ hp => szOk hp) xInt cdI wvB rInt hInt
theorem M_L_into {E : En} (hE : EOk E) : MtH E yL_into cL_into 5 eL_into 10 sL_into := M_L_into_g hE _ _ _ _ (M_G_into hE) (xInt_1)
theorem M_L_overlap_g {E : En} (hE : EOk E) (P : Int32 → Int32 → Int32 → mm_Hp → Prop) (tx : Int32 → Int32 → Int32 → mm_Hp → Nat) (rv : Int32 → Int32 → Int32 → mm_Hp → Int32) (sg : Int32 → Int32 → Int32 → mm_Hp → mm_Hp) (hM : Mt E yG_overlap cG_overlap 8 (some .int) 9 (ct3 0 1 P tx rv sg)) (hc : ∀ a b c hp, tx a b c hp ≤ 1) : MtH E yL_overlap cL_overlap 6 eL_overlap 10 (ch3 P tx cdI wvI rv sg) :=
  metL (n := 60) (tab := tL_overlap) (cals := [(110, ct3 0 1 P tx rv sg)]) (hnd := hnd1 7 0 15) hE rfl (by decide) kL_overlap rfl (cf_v 55 (lL_55 hM (by decide) ct3_t rfl) cf_nil) (hs1 (x := 0) hE (by omega) rfl) rfl ch3_c (Nat.le_of_ble_eq_true rfl) (fun _ _ => rfl) (fun as hp hl h => by
    obtain ⟨a, b, c, rfl, hP⟩ := ch3_s h
    refine ⟨⟨rfl, hP⟩, fun r => ⟨v01, ⟨rfl, ?_, ?_⟩⟩, fun e x => ?_⟩
    · have r : tx a b c hp = 0 := r
      show some (0 : Int32) = some (cdI (tx a b c hp))
      rw [r]; rfl
    · have r : tx a b c hp = 0 := r
      show ((sg a b c hp).1, mm_upL (sg a b c hp).2 43 0 (wvI (rv a b c hp))) = outH wvI (tx a b c hp) (rv a b c hp) (sg a b c hp)
      unfold outH
      rw [if_pos r]
    · have x : tx a b c hp = e + 1 := x
      have hle := hc a b c hp
      have so : outH wvI (tx a b c hp) (rv a b c hp) (sg a b c hp) = sg a b c hp := by unfold outH; rw [if_neg (by omega)]
      have e0 : e = 0 := by omega
      subst e0
      refine ⟨rfl, ?_, so.symm⟩
      show some (1 : Int32) = some (cdI (tx a b c hp))
      rw [x]; rfl)
def sL_overlap : mm_Ct := ch3 (fun _ _ _ hp => szOk hp) xOv cdI wvI fOv (fun _ _ _ hp => hp)
theorem M_L_overlap {E : En} (hE : EOk E) : MtH E yL_overlap cL_overlap 6 eL_overlap 10 sL_overlap := M_L_overlap_g hE _ _ _ _ (M_G_overlap hE) (xOv_1)
theorem M_L_linked_g {E : En} (hE : EOk E) (P : Int32 → Int32 → mm_Hp → Prop) (tx : Int32 → Int32 → mm_Hp → Nat) (rv : Int32 → Int32 → mm_Hp → Int32) (sg : Int32 → Int32 → mm_Hp → mm_Hp) (hM : Mt E yG_linked cG_linked 5 (some .int) 9 (ct2 0 1 P tx rv sg)) (hc : ∀ a b hp, tx a b hp ≤ 1) : MtH E yL_linked cL_linked 5 eL_linked 10 (ch2 P tx cdI wvI rv sg) :=
  metL (n := 60) (tab := tL_linked) (cals := [(116, ct2 0 1 P tx rv sg)]) (hnd := hnd1 5 0 13) hE rfl (by decide) kL_linked rfl (cf_v 58 (lL_58 hM (by decide) ct2_t rfl) cf_nil) (hs1 (x := 0) hE (by omega) rfl) rfl ch2_c (Nat.le_of_ble_eq_true rfl) (fun _ _ => rfl) (fun as hp hl h => by
    obtain ⟨a, b, rfl, hP⟩ := ch2_s h
    refine ⟨⟨rfl, hP⟩, fun r => ⟨v01, ⟨rfl, ?_, ?_⟩⟩, fun e x => ?_⟩
    · have r : tx a b hp = 0 := r
      show some (0 : Int32) = some (cdI (tx a b hp))
      rw [r]; rfl
    · have r : tx a b hp = 0 := r
      show ((sg a b hp).1, mm_upL (sg a b hp).2 43 0 (wvI (rv a b hp))) = outH wvI (tx a b hp) (rv a b hp) (sg a b hp)
      unfold outH
      rw [if_pos r]
    · have x : tx a b hp = e + 1 := x
      have hle := hc a b hp
      have so : outH wvI (tx a b hp) (rv a b hp) (sg a b hp) = sg a b hp := by unfold outH; rw [if_neg (by omega)]
      have e0 : e = 0 := by omega
      subst e0
      refine ⟨rfl, ?_, so.symm⟩
      show some (1 : Int32) = some (cdI (tx a b hp))
      rw [x]; rfl)
def sL_linked : mm_Ct := ch2 (fun _ _ hp => szOk hp) xLk cdI wvI fLk (fun _ _ hp => hp)
theorem M_L_linked {E : En} (hE : EOk E) : MtH E yL_linked cL_linked 5 eL_linked 10 sL_linked := M_L_linked_g hE _ _ _ _ (M_G_linked hE) (xLk_1)
theorem M_L_unit_g {E : En} (hE : EOk E) (P : Int32 → Int32 → Int32 → Int32 → mm_Hp → Prop) (tx : Int32 → Int32 → Int32 → Int32 → mm_Hp → Nat) (rv : Int32 → Int32 → Int32 → Int32 → mm_Hp → Int32) (sg : Int32 → Int32 → Int32 → Int32 → mm_Hp → mm_Hp) (hM : Mt E yG_unit cG_unit 6 (some .int) 9 (ct4 0 1 P tx rv sg)) (hc : ∀ a b c d hp, tx a b c d hp = 0 ∨ tx a b c d hp = 3) : MtH E yL_unit cL_unit 7 eL_unit 10 (ch4 P tx cd1 wvI rv sg) :=
  metL (n := 60) (tab := tL_unit) (cals := [(122, ct4 0 1 P tx rv sg)]) (hnd := hnd1 9 2 17) hE rfl (by decide) kL_unit rfl (cf_v 61 (lL_61 hM (by decide) ct4_t rfl) cf_nil) (hs1 (x := 2) hE (by omega) rfl) rfl ch4_c (Nat.le_of_ble_eq_true rfl) (fun _ _ => rfl) (fun as hp hl h => by
    obtain ⟨a, b, c, d, rfl, hP⟩ := ch4_s h
    refine ⟨⟨rfl, hP⟩, fun r => ⟨v01, ⟨rfl, ?_, ?_⟩⟩, fun e x => ?_⟩
    · have r : tx a b c d hp = 0 := r
      show some (0 : Int32) = some (cd1 (tx a b c d hp))
      rw [r]; rfl
    · have r : tx a b c d hp = 0 := r
      show ((sg a b c d hp).1, mm_upL (sg a b c d hp).2 43 0 (wvI (rv a b c d hp))) = outH wvI (tx a b c d hp) (rv a b c d hp) (sg a b c d hp)
      unfold outH
      rw [if_pos r]
    · have x : tx a b c d hp = e + 1 := x
      have hle := hc a b c d hp
      have so : outH wvI (tx a b c d hp) (rv a b c d hp) (sg a b c d hp) = sg a b c d hp := by unfold outH; rw [if_neg (by omega)]
      have e0 : e = 2 := by omega
      subst e0
      refine ⟨rfl, ?_, so.symm⟩
      show some (1 : Int32) = some (cd1 (tx a b c d hp))
      rw [x]; rfl)
def sL_unit : mm_Ct := ch4 (fun _ _ _ _ hp => txOk hp) xUn cd1 wvI (fun a b c d hp => (hUn a b c d hp).1 4 2) (fun a b c d hp => if xUn a b c d hp = 0 then hUn a b c d hp else hp)
theorem M_L_unit {E : En} (hE : EOk E) : MtH E yL_unit cL_unit 7 eL_unit 10 sL_unit := M_L_unit_g hE _ _ _ _ (M_G_unit hE) (xUn_3)
theorem M_L_rule_g {E : En} (hE : EOk E) (P : mm_Hp → Prop) (tx : mm_Hp → Nat) (rv : mm_Hp → Int32) (sg : mm_Hp → mm_Hp) (hM : Mt E yG_rule cG_rule 1 (some .int) 9 (ct0 0 1 P tx rv sg)) (hc : ∀ hp, tx hp = 0 ∨ tx hp = 3) : MtH E yL_rule cL_rule 3 eL_rule 10 (ch0 P tx cd1 wvI rv sg) :=
  metL (n := 60) (tab := tL_rule) (cals := [(130, ct0 0 1 P tx rv sg)]) (hnd := hnd1 3 2 11) hE rfl (by decide) kL_rule rfl (cf_v 65 (lL_65 hM (by decide) ct0_t rfl) cf_nil) (hs1 (x := 2) hE (by omega) rfl) rfl ch0_c (Nat.le_of_ble_eq_true rfl) (fun _ _ => rfl) (fun as hp hl h => by
    obtain ⟨rfl, hP⟩ := ch0_s h
    refine ⟨⟨rfl, hP⟩, fun r => ⟨v01, ⟨rfl, ?_, ?_⟩⟩, fun e x => ?_⟩
    · have r : tx hp = 0 := r
      show some (0 : Int32) = some (cd1 (tx hp))
      rw [r]; rfl
    · have r : tx hp = 0 := r
      show ((sg hp).1, mm_upL (sg hp).2 43 0 (wvI (rv hp))) = outH wvI (tx hp) (rv hp) (sg hp)
      unfold outH
      rw [if_pos r]
    · have x : tx hp = e + 1 := x
      have hle := hc hp
      have so : outH wvI (tx hp) (rv hp) (sg hp) = sg hp := by unfold outH; rw [if_neg (by omega)]
      have e0 : e = 2 := by omega
      subst e0
      refine ⟨rfl, ?_, so.symm⟩
      show some (1 : Int32) = some (cd1 (tx hp))
      rw [x]; rfl)
def sL_rule : mm_Ct := ch0 (fun hp => txOk hp ∧ rlOk hp) xRl cd1 wvI (fun hp => (fRT hp).1) (fun hp => if xRl hp = 0 then (fRT hp).2 else hp)
theorem M_L_rule {E : En} (hE : EOk E) : MtH E yL_rule cL_rule 3 eL_rule 10 sL_rule := M_L_rule_g hE _ _ _ _ (M_G_rule hE) (xRl_3)
theorem M_L_type_g {E : En} (hE : EOk E) (P : Int32 → mm_Hp → Prop) (tx : Int32 → mm_Hp → Nat) (rv : Int32 → mm_Hp → Int32) (sg : Int32 → mm_Hp → mm_Hp) (hM : Mt E yG_type cG_type 2 (some .int) 9 (ct1 0 1 P tx rv sg)) (hc : ∀ a hp, tx a hp ≤ 1) : MtH E yL_type cL_type 4 eL_type 10 (ch1 P tx cdI wvI rv sg) :=
  metL (n := 60) (tab := tL_type) (cals := [(136, ct1 0 1 P tx rv sg)]) (hnd := hnd1 4 0 12) hE rfl (by decide) kL_type rfl (cf_v 68 (lL_68 hM (by decide) ct1_t rfl) cf_nil) (hs1 (x := 0) hE (by omega) rfl) rfl ch1_c (Nat.le_of_ble_eq_true rfl) (fun _ _ => rfl) (fun as hp hl h => by
    obtain ⟨a, rfl, hP⟩ := ch1_s h
    refine ⟨⟨rfl, hP⟩, fun r => ⟨v01, ⟨rfl, ?_, ?_⟩⟩, fun e x => ?_⟩
    · have r : tx a hp = 0 := r
      show some (0 : Int32) = some (cdI (tx a hp))
      rw [r]; rfl
    · have r : tx a hp = 0 := r
      show ((sg a hp).1, mm_upL (sg a hp).2 43 0 (wvI (rv a hp))) = outH wvI (tx a hp) (rv a hp) (sg a hp)
      unfold outH
      rw [if_pos r]
    · have x : tx a hp = e + 1 := x
      have hle := hc a hp
      have so : outH wvI (tx a hp) (rv a hp) (sg a hp) = sg a hp := by unfold outH; rw [if_neg (by omega)]
      have e0 : e = 0 := by omega
      subst e0
      refine ⟨rfl, ?_, so.symm⟩
      show some (1 : Int32) = some (cdI (tx a hp))
      rw [x]; rfl)
def sL_type : mm_Ct := ch1 (fun _ hp => cnOk hp ∧ rlOk hp) xCoin cdI wvI fType (fun _ hp => hp)
theorem M_L_type {E : En} (hE : EOk E) : MtH E yL_type cL_type 4 eL_type 10 sL_type := M_L_type_g hE _ _ _ _ (M_G_type hE) (fun a hp => xCoin_1 a hp)
theorem M_L_count_g {E : En} (hE : EOk E) (P : Int32 → mm_Hp → Prop) (tx : Int32 → mm_Hp → Nat) (rv : Int32 → mm_Hp → Int32) (sg : Int32 → mm_Hp → mm_Hp) (hM : Mt E yG_count cG_count 2 (some .int) 9 (ct1 0 1 P tx rv sg)) (hc : ∀ a hp, tx a hp ≤ 1) : MtH E yL_count cL_count 4 eL_count 10 (ch1 P tx cdI wvI rv sg) :=
  metL (n := 60) (tab := tL_count) (cals := [(142, ct1 0 1 P tx rv sg)]) (hnd := hnd1 4 0 12) hE rfl (by decide) kL_count rfl (cf_v 71 (lL_71 hM (by decide) ct1_t rfl) cf_nil) (hs1 (x := 0) hE (by omega) rfl) rfl ch1_c (Nat.le_of_ble_eq_true rfl) (fun _ _ => rfl) (fun as hp hl h => by
    obtain ⟨a, rfl, hP⟩ := ch1_s h
    refine ⟨⟨rfl, hP⟩, fun r => ⟨v01, ⟨rfl, ?_, ?_⟩⟩, fun e x => ?_⟩
    · have r : tx a hp = 0 := r
      show some (0 : Int32) = some (cdI (tx a hp))
      rw [r]; rfl
    · have r : tx a hp = 0 := r
      show ((sg a hp).1, mm_upL (sg a hp).2 43 0 (wvI (rv a hp))) = outH wvI (tx a hp) (rv a hp) (sg a hp)
      unfold outH
      rw [if_pos r]
    · have x : tx a hp = e + 1 := x
      have hle := hc a hp
      have so : outH wvI (tx a hp) (rv a hp) (sg a hp) = sg a hp := by unfold outH; rw [if_neg (by omega)]
      have e0 : e = 0 := by omega
      subst e0
      refine ⟨rfl, ?_, so.symm⟩
      show some (1 : Int32) = some (cdI (tx a hp))
      rw [x]; rfl)
def sL_count : mm_Ct := ch1 (fun _ hp => szOk hp) (fun w _ => xCt w) cdI wvI fCt (fun _ hp => hp)
theorem M_L_count {E : En} (hE : EOk E) : MtH E yL_count cL_count 4 eL_count 10 sL_count := M_L_count_g hE _ _ _ _ (M_G_count hE) (fun a _ => xCt_1 a)
