/-! ===== the reference: coin, ring, hoard, into, order ===== -/
/-- behind 'goes': all is well, or a number is thrown -/
theorem go2 {g X Y Z : Int32} (hg : g = fGo X Y Z) (hp : mm_Hp) : (¬ (if fGo X Y Z = 0 then (1 : Int32) else 0) = 0 → g = 0 ∧ setT (fGo X Y Z) hp = setT 0 hp) ∧ ((if fGo X Y Z = 0 then (1 : Int32) else 0) = 0 → ¬ g = 0 ∧ setT (fGo X Y Z) hp = setT g hp) := by
  subst hg
  refine ⟨fun c => ?_, fun c => ?_⟩
  · have := gt0 c
    exact ⟨this, by rw [this]⟩
  · exact ⟨gf0 c, rfl⟩
def setA (hp : mm_Hp) (c i : Nat) (v : Int32) : mm_Hp := (mm_up hp.1 c i v, hp.2)
theorem setA_as (hp : mm_Hp) (c i : Nat) (v : Int32) : setA hp c i v = sR hp c (upd (hp.1 c) i v) := up_as hp c i v
def iCn (hp : mm_Hp) (g f b m : Int32) (pc : Nat) : Option (mm_Loc → mm_Hp → Prop) := cond (Nat.beq pc 56) (some (fun L hp' => L = [some (.ref 25), some (.int f), some (.int b), some (.int m)] ∧ hp' = setT 0 hp ∧ g = 0)) none
def as3 (as : List Value) : Int32 × Int32 × Int32 := match as with
  | [_, .int a, .int b, .int c] => (a, b, c)
  | _ => (0, 0, 0)
theorem M_M_coin_g {E : En} (hE : EOk E) (rv : Int32 → Int32 → Int32 → mm_Hp → Int32) (sg : Int32 → Int32 → Int32 → mm_Hp → mm_Hp) (r1 : ∀ f b m hp, gCn f b m hp = 0 → rv f b m hp = hp.1 25 1 + 1 - 1) (r0 : ∀ f b m hp, ¬ gCn f b m hp = 0 → rv f b m hp = 0) (s1 : ∀ f b m hp, gCn f b m hp = 0 → sg f b m hp = mCn f b m (setT 0 hp)) (s0 : ∀ f b m hp, ¬ gCn f b m hp = 0 → sg f b m hp = setT (gCn f b m hp) hp) :
    Mt E yM_coin cM_coin 4 (some .int) 6 (ct3 25 1 (fun _ _ _ hp => ∃ n, n ≤ 80 ∧ hp.1 25 1 = nI n) (fun _ _ _ _ => 0) rv sg) :=
  met (n := 60) (tab := tM_coin) (cals := [(197, sM_within), (206, sM_goes)]) hE flM_ok pfM_ok csM_ok rfl (by decide) kM_coin rfl (cf_s 98 (lM_98 (M_M_within hE) (by decide) rfl) (cf_v 103 (lM_103 (M_M_goes hE) (by decide) ct3_t rfl) cf_nil)) (rt_i rfl) ct3_c (Nat.le_of_ble_eq_true rfl) rfl
    (fun as hp pc => iCn hp (gCn (as3 as).1 (as3 as).2.1 (as3 as).2.2 hp) (as3 as).1 (as3 as).2.1 (as3 as).2.2 pc) (fun pc L _ => 0)
    (fun as hp hl h => by
      obtain ⟨f, b, m, rfl, hP⟩ := ct3_s h
      have fin : ∀ X Y Z : Int32, gCn f b m hp = fGo X Y Z → (¬ (if fGo X Y Z = 0 then (1 : Int32) else 0) = 0 → setT (fGo X Y Z) hp = setT 0 hp ∧ gCn f b m hp = 0) ∧ ((if fGo X Y Z = 0 then (1 : Int32) else 0) = 0 → some (0 : Int32) = some (rv f b m hp) ∧ setT (fGo X Y Z) hp = sg f b m hp) := fun X Y Z hg => by
        obtain ⟨a1, a2⟩ := go2 hg hp
        refine ⟨fun c => ⟨(a1 c).2, (a1 c).1⟩, fun c => ⟨by rw [r0 f b m hp (a2 c).1], ?_⟩⟩
        rw [s0 f b m hp (a2 c).1]
        exact (a2 c).2
      refine ⟨trivial, fun r5 => ⟨fun c8 => ⟨trivial, fun r31 => ⟨fun c40 => ⟨⟨rfl, trivial⟩, fun r48 => ⟨fun c51 => ?_, fun c51 => ?_⟩, fun e48 x48 => no0 x48⟩, fun c40 => ⟨⟨rfl, trivial⟩, fun r48 => ⟨fun c51 => ?_, fun c51 => ?_⟩, fun e48 x48 => no0 x48⟩⟩, fun e31 x31 => no0 x31⟩, fun c8 => ⟨trivial, fun r16 => ⟨fun c19 => ⟨trivial, fun r31 => ⟨fun c40 => ⟨⟨rfl, trivial⟩, fun r48 => ⟨fun c51 => ?_, fun c51 => ?_⟩, fun e48 x48 => no0 x48⟩, fun c40 => ⟨⟨rfl, trivial⟩, fun r48 => ⟨fun c51 => ?_, fun c51 => ?_⟩, fun e48 x48 => no0 x48⟩⟩, fun e31 x31 => no0 x31⟩, fun c19 => ⟨trivial, fun r31 => ⟨fun c40 => ⟨⟨rfl, trivial⟩, fun r48 => ⟨fun c51 => ?_, fun c51 => ?_⟩, fun e48 x48 => no0 x48⟩, fun c40 => ⟨⟨rfl, trivial⟩, fun r48 => ⟨fun c51 => ?_, fun c51 => ?_⟩, fun e48 x48 => no0 x48⟩⟩, fun e31 x31 => no0 x31⟩⟩, fun e16 x16 => no0 x16⟩⟩, fun e5 x5 => no0 x5⟩
      all_goals try (have c8 : fWi f 0 15 = 0 := c8)
      all_goals try (have c8 : ¬ fWi f 0 15 = 0 := c8)
      all_goals try (have c19 : fWi b 16 31 = 0 := c19)
      all_goals try (have c19 : ¬ fWi b 16 31 = 0 := c19)
      all_goals try (have c40 : 80 ≤ hp.1 25 1 := c40)
      all_goals try (have c40 : ¬ 80 ≤ hp.1 25 1 := c40)
      · obtain ⟨q1, q2⟩ := (fin 0 (fWi m 1 1000000) 0 (by unfold gCn; rw [if_pos c8, if_pos c40])).1 c51
        exact ⟨rfl, rfl, q1, q2⟩
      · obtain ⟨q1, q2⟩ := (fin 0 (fWi m 1 1000000) 0 (by unfold gCn; rw [if_pos c8, if_pos c40])).2 c51
        exact ⟨rfl, q1, q2⟩
      · obtain ⟨q1, q2⟩ := (fin 0 (fWi m 1 1000000) 1 (by unfold gCn; rw [if_pos c8, if_neg c40])).1 c51
        exact ⟨rfl, rfl, q1, q2⟩
      · obtain ⟨q1, q2⟩ := (fin 0 (fWi m 1 1000000) 1 (by unfold gCn; rw [if_pos c8, if_neg c40])).2 c51
        exact ⟨rfl, q1, q2⟩
      · obtain ⟨q1, q2⟩ := (fin 0 (fWi m 1 1000000) 0 (by unfold gCn; rw [if_neg c8, if_pos c19, if_pos c40])).1 c51
        exact ⟨rfl, rfl, q1, q2⟩
      · obtain ⟨q1, q2⟩ := (fin 0 (fWi m 1 1000000) 0 (by unfold gCn; rw [if_neg c8, if_pos c19, if_pos c40])).2 c51
        exact ⟨rfl, q1, q2⟩
      · obtain ⟨q1, q2⟩ := (fin 0 (fWi m 1 1000000) 1 (by unfold gCn; rw [if_neg c8, if_pos c19, if_neg c40])).1 c51
        exact ⟨rfl, rfl, q1, q2⟩
      · obtain ⟨q1, q2⟩ := (fin 0 (fWi m 1 1000000) 1 (by unfold gCn; rw [if_neg c8, if_pos c19, if_neg c40])).2 c51
        exact ⟨rfl, q1, q2⟩
      · obtain ⟨q1, q2⟩ := (fin 1 (fWi m 1 1000000) 0 (by unfold gCn; rw [if_neg c8, if_neg c19, if_pos c40])).1 c51
        exact ⟨rfl, rfl, q1, q2⟩
      · obtain ⟨q1, q2⟩ := (fin 1 (fWi m 1 1000000) 0 (by unfold gCn; rw [if_neg c8, if_neg c19, if_pos c40])).2 c51
        exact ⟨rfl, q1, q2⟩
      · obtain ⟨q1, q2⟩ := (fin 1 (fWi m 1 1000000) 1 (by unfold gCn; rw [if_neg c8, if_neg c19, if_neg c40])).1 c51
        exact ⟨rfl, rfl, q1, q2⟩
      · obtain ⟨q1, q2⟩ := (fin 1 (fWi m 1 1000000) 1 (by unfold gCn; rw [if_neg c8, if_neg c19, if_neg c40])).2 c51
        exact ⟨rfl, q1, q2⟩)
    (fun as hp hl h pc P hq L hp' hL _ => by
      obtain ⟨f, b, m, rfl, hP⟩ := ct3_s h
      obtain ⟨rfl, rfl⟩ := at1 hq
      obtain ⟨rfl, ehp, hg⟩ := hL
      have hg : gCn f b m hp = 0 := hg
      obtain ⟨n, hn, en⟩ := hP
      have hlt : n < 80 := by
        have h3 := (fGo_0.mp hg).2.2
        apply Classical.byContradiction
        intro q
        apply h3
        rw [if_pos]
        rw [en]
        exact (nI_leI (a := 80) (by omega) (by omega)).mpr (by omega)
      have v25 : hp'.1 25 1 = nI n := by rw [ehp, setT_25 _ _ (by omega)]; exact en
      have es : mszN (setT 0 hp) = n := by unfold mszN; rw [setT_25 _ _ (by omega), en, nIc (by omega)]
      have i80 : vp_in (hp'.1 25 1) 80 := inx v25 hlt (by omega)
      have e2 : 2 * hp'.1 25 1 = nI (2 * n) := by rw [v25, show (2 : Int32) = nI 2 from rfl, pk_mul]
      have i30 : vp_in (2 * hp'.1 25 1) 160 := inx e2 (by omega) (by omega)
      have i31 : vp_in (2 * hp'.1 25 1 + 1) 160 := inx (show 2 * hp'.1 25 1 + 1 = nI (2 * n + 1) by rw [e2, nI_1]) (by omega) (by omega)
      refine ⟨i80, ⟨i80, ⟨i80, ⟨i30, ⟨i31, ⟨rfl, ?_, ?_⟩⟩⟩⟩⟩⟩
      · show some (hp'.1 25 1 + 1 - 1) = some (rv f b m hp)
        rw [r1 f b m hp hg, v25, en]
      · show (mm_up (mm_up (mm_up (mm_up (mm_up (mm_up hp'.1 26 (hp'.1 25 1).toNatClampNeg f) 27 (hp'.1 25 1).toNatClampNeg b) 28 (hp'.1 25 1).toNatClampNeg m) 30 (2 * hp'.1 25 1).toNatClampNeg (-1)) 30 (2 * hp'.1 25 1 + 1).toNatClampNeg (-1)) 25 1 (hp'.1 25 1 + 1), hp'.2) = sg f b m hp
        rw [s1 f b m hp hg, e2, nI_1, nIc (by omega), nIc (by omega), v25, nIc (by omega), ← v25, ehp]
        unfold mCn
        rw [es]
        generalize setT 0 hp = h0
        show setA (setA (setA (setA (setA (setA h0 26 n f) 27 n b) 28 n m) 30 (2 * n) (-1)) 30 (2 * n + 1) (-1)) 25 1 (h0.1 25 1 + 1) = _
        rw [setA_as h0, setA_as, setA_as, setA_as, setA_as, setA_as]
        rw [sR_at, sR_sR]
        rw [sR_ne (c := 30) (k := 25) (by omega), sR_ne (c := 28) (k := 25) (by omega), sR_ne (c := 27) (k := 25) (by omega), sR_ne (c := 26) (k := 25) (by omega), sR_ne (c := 28) (k := 30) (by omega), sR_ne (c := 27) (k := 30) (by omega), sR_ne (c := 26) (k := 30) (by omega), sR_ne (c := 27) (k := 28) (by omega), sR_ne (c := 26) (k := 28) (by omega), sR_ne (c := 26) (k := 27) (by omega)])
def sM_coin : mm_Ct := ct3 25 1 (fun _ _ _ hp => ∃ n, n ≤ 80 ∧ hp.1 25 1 = nI n) (fun _ _ _ _ => 0) rCnM hCnM
theorem M_M_coin {E : En} (hE : EOk E) : Mt E yM_coin cM_coin 4 (some .int) 6 sM_coin :=
  M_M_coin_g hE rCnM hCnM (fun f b m hp h => by unfold rCnM; rw [if_pos h]) (fun f b m hp h => by unfold rCnM; rw [if_neg h]) (fun f b m hp h => by unfold hCnM; rw [if_pos h]) (fun f b m hp h => by unfold hCnM; rw [if_neg h])
/-! ring -/
def hRgM (k : Int32) (hp : mm_Hp) : mm_Hp := setT (gRg k) hp
theorem M_M_ring_g {E : En} (hE : EOk E) (rv : Int32 → mm_Hp → Int32) (sg : Int32 → mm_Hp → mm_Hp) (r1 : ∀ k hp, gRg k = 0 → rv k hp = if hp.1 25 13 ≤ k then -1 else hp.1 36 (cN k)) (r0 : ∀ k hp, ¬ gRg k = 0 → rv k hp = 0) (s1 : ∀ k hp, sg k hp = setT (gRg k) hp) :
    Mt E yM_ring cM_ring 2 (some .int) 6 (ct1 25 1 (fun _ hp => ∃ t, t ≤ 32 ∧ hp.1 25 13 = nI t) (fun _ _ => 0) rv sg) :=
  metS (n := 60) (tab := tM_ring) (cals := [(206, sM_goes)]) hE flM_ok pfM_ok csM_ok rfl (by decide) kM_ring rfl (cf_v 103 (lM_103 (M_M_goes hE) (by decide) ct3_t rfl) cf_nil) (rt_i rfl) ct1_c (Nat.le_of_ble_eq_true rfl) rfl (fun as hp hl h => by
    obtain ⟨k, rfl, t, ht, et⟩ := ct1_s h
    refine ⟨fun c2 => ⟨⟨rfl, trivial⟩, fun r12 => ⟨fun c15 => absurd rfl (show ¬ (0 : Int32) = 0 from c15), fun c15 => ⟨rfl, ?_, ?_⟩⟩, fun e12 x12 => no0 x12⟩, fun c2 => ⟨⟨rfl, trivial⟩, fun r12 => ⟨fun c15 => ⟨fun c25 => ⟨rfl, ?_, ?_⟩, fun c25 => ⟨?_, ⟨rfl, ?_, ?_⟩⟩⟩, fun c15 => absurd (show (1 : Int32) = 0 from c15) (by decide)⟩, fun e12 x12 => no0 x12⟩⟩
    · have c2 : k < 0 := c2
      have g : gRg k = 1 := by unfold gRg; rw [if_pos c2]; rfl
      show some (0 : Int32) = some (rv k hp)
      rw [r0 k hp (by rw [g]; decide)]
    · have c2 : k < 0 := c2
      have g : gRg k = 1 := by unfold gRg; rw [if_pos c2]; rfl
      show setT 1 hp = sg k hp
      rw [s1, g]
    · have c2 : ¬ k < 0 := c2
      have g : gRg k = 0 := by unfold gRg; rw [if_neg c2]; rfl
      have c25 : (setT 0 hp).1 25 13 ≤ k := c25
      rw [setT_25 _ _ (by omega)] at c25
      show some (-1 : Int32) = some (rv k hp)
      rw [r1 k hp g, if_pos c25]
    · have c2 : ¬ k < 0 := c2
      have g : gRg k = 0 := by unfold gRg; rw [if_neg c2]; rfl
      show setT 0 hp = sg k hp
      rw [s1, g]
    · have c2 : ¬ k < 0 := c2
      have c25 : ¬ (setT 0 hp).1 25 13 ≤ k := c25
      rw [setT_25 _ _ (by omega), et] at c25
      obtain ⟨j, hj, ej⟩ := nI_in2 (n := t) (by omega) c2 c25
      exact inx ej (by omega) (by omega)
    · have c2 : ¬ k < 0 := c2
      have g : gRg k = 0 := by unfold gRg; rw [if_neg c2]; rfl
      have c25 : ¬ (setT 0 hp).1 25 13 ≤ k := c25
      rw [setT_25 _ _ (by omega)] at c25
      show some ((setT 0 hp).1 36 k.toNatClampNeg) = some (rv k hp)
      rw [r1 k hp g, if_neg c25, setT_ne _ _ (by omega)]
      rfl
    · have c2 : ¬ k < 0 := c2
      have g : gRg k = 0 := by unfold gRg; rw [if_neg c2]; rfl
      show setT 0 hp = sg k hp
      rw [s1, g])
def sM_ring : mm_Ct := ct1 25 1 (fun _ hp => ∃ t, t ≤ 32 ∧ hp.1 25 13 = nI t) (fun _ _ => 0) rRgM hRgM
theorem M_M_ring {E : En} (hE : EOk E) : Mt E yM_ring cM_ring 2 (some .int) 6 sM_ring :=
  M_M_ring_g hE rRgM hRgM (fun k hp h => by unfold rRgM; rw [if_pos h]) (fun k hp h => by unfold rRgM; rw [if_neg h]) (fun k hp => rfl)
/-! hoard -/
theorem M_M_hoard_g {E : En} (hE : EOk E) (rv : mm_Hp → Int32) (sg : mm_Hp → mm_Hp) (r1 : ∀ hp, gHd hp = 0 → rv hp = hp.1 25 17 + 1 - 1) (r0 : ∀ hp, ¬ gHd hp = 0 → rv hp = 0) (s1 : ∀ hp, gHd hp = 0 → sg hp = setF 17 (hp.1 25 17 + 1) (setT 0 hp)) (s0 : ∀ hp, ¬ gHd hp = 0 → sg hp = setT (gHd hp) hp) :
    Mt E yM_hoard cM_hoard 1 (some .int) 6 (ct0 25 1 (fun _ => True) (fun _ => 0) rv sg) :=
  metS (n := 60) (tab := tM_hoard) (cals := [(206, sM_goes)]) hE flM_ok pfM_ok csM_ok rfl (by decide) kM_hoard rfl (cf_v 103 (lM_103 (M_M_goes hE) (by decide) ct3_t rfl) cf_nil) (rt_i rfl) ct0_c (Nat.le_of_ble_eq_true rfl) rfl (fun as hp hl h => by
    obtain ⟨rfl, _⟩ := ct0_s h
    refine ⟨fun c7 => ⟨⟨rfl, trivial⟩, fun r17 => ⟨fun c20 => absurd rfl (show ¬ (0 : Int32) = 0 from c20), fun c20 => ⟨rfl, ?_, ?_⟩⟩, fun e17 x17 => no0 x17⟩, fun c7 => ⟨⟨rfl, trivial⟩, fun r17 => ⟨fun c20 => ⟨rfl, ?_, ?_⟩, fun c20 => absurd (show (1 : Int32) = 0 from c20) (by decide)⟩, fun e17 x17 => no0 x17⟩⟩
    · have c7 : 8 ≤ hp.1 25 17 := c7
      have g : gHd hp = 1 := by unfold gHd; rw [if_pos c7]; rfl
      show some (0 : Int32) = some (rv hp)
      rw [r0 hp (by rw [g]; decide)]
    · have c7 : 8 ≤ hp.1 25 17 := c7
      have g : gHd hp = 1 := by unfold gHd; rw [if_pos c7]; rfl
      show setT 1 hp = sg hp
      rw [s0 hp (by rw [g]; decide), g]
    · have c7 : ¬ 8 ≤ hp.1 25 17 := c7
      have g : gHd hp = 0 := by unfold gHd; rw [if_neg c7]; rfl
      show some ((setT 0 hp).1 25 17 + 1 - 1) = some (rv hp)
      rw [r1 hp g, setT_25 _ _ (by omega)]
    · have c7 : ¬ 8 ≤ hp.1 25 17 := c7
      have g : gHd hp = 0 := by unfold gHd; rw [if_neg c7]; rfl
      show setA (setT 0 hp) 25 17 ((setT 0 hp).1 25 17 + 1) = sg hp
      rw [s1 hp g, setA_as, setT_25 0 hp (j := 17) (by omega)]
      rfl)
def sM_hoard : mm_Ct := ct0 25 1 (fun _ => True) (fun _ => 0) rHdM hHdM
theorem M_M_hoard {E : En} (hE : EOk E) : Mt E yM_hoard cM_hoard 1 (some .int) 6 sM_hoard :=
  M_M_hoard_g hE rHdM hHdM (fun hp h => by unfold rHdM; rw [if_pos h]) (fun hp h => by unfold rHdM; rw [if_neg h]) (fun hp h => by unfold hHdM; rw [if_pos h]) (fun hp h => by unfold hHdM; rw [if_neg h])
/-! into -/
def iIn (hp : mm_Hp) (g h c : Int32) (pc : Nat) : Option (mm_Loc → mm_Hp → Prop) := cond (Nat.beq pc 32) (some (fun L hp' => ∃ o, L = [some (.ref 25), some (.int h), some (.int c), o] ∧ hp' = setT 0 hp ∧ g = 0)) none
def as2 (as : List Value) : Int32 × Int32 := match as with
  | [_, .int a, .int b] => (a, b)
  | _ => (0, 0)
def hvOk (hp : mm_Hp) : Prop := (∃ n, n ≤ 80 ∧ hp.1 25 1 = nI n) ∧ (∃ n, n ≤ 8 ∧ hp.1 25 17 = nI n) ∧ ∀ k, k < 640 → isB (hp.1 39 k)
theorem ic_in {c : Int32} {hp : mm_Hp} {n : Nat} (hn : n ≤ 4000) (e : hp.1 25 1 = nI n) (h : ¬ fIc c hp = 0) : ∃ k, k < n ∧ c = nI k := by
  unfold fIc at h
  rw [e] at h
  have h : ¬ (c < 0 ∨ nI n ≤ c) := fun q => h (if_pos q)
  exact nI_in2 hn (fun q => h (Or.inl q)) (fun q => h (Or.inr q))
theorem ih_in {c : Int32} {hp : mm_Hp} {n : Nat} (hn : n ≤ 4000) (e : hp.1 25 17 = nI n) (h : ¬ fIh c hp = 0) : ∃ k, k < n ∧ c = nI k := by
  unfold fIh at h
  rw [e] at h
  have h : ¬ (c < 0 ∨ nI n ≤ c) := fun q => h (if_pos q)
  exact nI_in2 hn (fun q => h (Or.inl q)) (fun q => h (Or.inr q))
theorem and_n0 {x y : Int32} (h : ¬ (if x = 0 then (0 : Int32) else if y = 0 then 0 else 1) = 0) : ¬ x = 0 ∧ ¬ y = 0 := by
  refine ⟨fun q => h (if_pos q), fun q => h ?_⟩
  by_cases r : x = 0
  · rw [if_pos r]
  · rw [if_neg r, if_pos q]
theorem M_M_into_g {E : En} (hE : EOk E) (rv : Int32 → Int32 → mm_Hp → Int32) (sg : Int32 → Int32 → mm_Hp → mm_Hp) (hB : ∀ h c hp, isB (rv h c hp)) (r1 : ∀ h c hp, gIn h c hp = 0 → rv h c hp = if hp.1 39 (80 * cN h + cN c) = 0 then 1 else 0) (r0 : ∀ h c hp, ¬ gIn h c hp = 0 → rv h c hp = 0) (s1 : ∀ h c hp, gIn h c hp = 0 → sg h c hp = sR (setT 0 hp) 39 (upd (hp.1 39) (80 * cN h + cN c) 1)) (s0 : ∀ h c hp, ¬ gIn h c hp = 0 → sg h c hp = setT (gIn h c hp) hp) :
    Mt E yM_into cM_into 4 (some .boolean) 6 (ct2 25 1 (fun _ _ hp => hvOk hp) (fun _ _ _ => 0) rv sg) :=
  met (n := 60) (tab := tM_into) (cals := [(278, sM_isHoard), (214, sM_isCoin), (206, sM_goes)]) hE flM_ok pfM_ok csM_ok rfl (by decide) kM_into rfl (cf_v 139 (lM_139 (M_M_isHoard hE) (by decide) ct1_t rfl) (cf_v 107 (lM_107 (M_M_isCoin hE) (by decide) ct1_t rfl) (cf_v 103 (lM_103 (M_M_goes hE) (by decide) ct3_t rfl) cf_nil))) (rt_z2 (fun h c hp _ => hB h c hp)) ct2_c (Nat.le_of_ble_eq_true rfl) rfl
    (fun as hp pc => iIn hp (gIn (as2 as).1 (as2 as).2 hp) (as2 as).1 (as2 as).2 pc) (fun pc L _ => 0)
    (fun as hp hl h => by
      obtain ⟨a, b, rfl, hP⟩ := ct2_s h
      have fin : ∀ X Y Z : Int32, gIn a b hp = fGo X Y Z → (¬ (if fGo X Y Z = 0 then (1 : Int32) else 0) = 0 → setT (fGo X Y Z) hp = setT 0 hp ∧ gIn a b hp = 0) ∧ ((if fGo X Y Z = 0 then (1 : Int32) else 0) = 0 → some (0 : Int32) = some (rv a b hp) ∧ setT (fGo X Y Z) hp = sg a b hp) := fun X Y Z hg => by
        obtain ⟨a1, a2⟩ := go2 hg hp
        refine ⟨fun c => ⟨(a1 c).2, (a1 c).1⟩, fun c => ⟨by rw [r0 a b hp (a2 c).1], ?_⟩⟩
        rw [s0 a b hp (a2 c).1]
        exact (a2 c).2
      refine ⟨⟨rfl, trivial⟩, fun r3 => ⟨fun c6 => ⟨⟨rfl, trivial⟩, fun r24 => ⟨fun c27 => ?_, fun c27 => ?_⟩, fun e24 x24 => no0 x24⟩, fun c6 => ⟨⟨rfl, trivial⟩, fun r11 => ⟨fun c14 => ⟨⟨rfl, trivial⟩, fun r24 => ⟨fun c27 => ?_, fun c27 => ?_⟩, fun e24 x24 => no0 x24⟩, fun c14 => ⟨⟨rfl, trivial⟩, fun r24 => ⟨fun c27 => ?_, fun c27 => ?_⟩, fun e24 x24 => no0 x24⟩⟩, fun e11 x11 => no0 x11⟩⟩, fun e3 x3 => no0 x3⟩
      all_goals try (have c6 : fIh a hp = 0 := c6)
      all_goals try (have c6 : ¬ fIh a hp = 0 := c6)
      all_goals try (have c14 : fIc b hp = 0 := c14)
      all_goals try (have c14 : ¬ fIc b hp = 0 := c14)
      · obtain ⟨q1, q2⟩ := (fin 0 1 1 (by unfold gIn; rw [if_pos c6])).1 c27
        exact ⟨rfl, _, rfl, q1, q2⟩
      · obtain ⟨q1, q2⟩ := (fin 0 1 1 (by unfold gIn; rw [if_pos c6])).2 c27
        exact ⟨rfl, q1, q2⟩
      · obtain ⟨q1, q2⟩ := (fin 0 1 1 (by unfold gIn; rw [if_neg c6, if_pos c14])).1 c27
        exact ⟨rfl, _, rfl, q1, q2⟩
      · obtain ⟨q1, q2⟩ := (fin 0 1 1 (by unfold gIn; rw [if_neg c6, if_pos c14])).2 c27
        exact ⟨rfl, q1, q2⟩
      · obtain ⟨q1, q2⟩ := (fin 1 1 1 (by unfold gIn; rw [if_neg c6, if_neg c14])).1 c27
        exact ⟨rfl, _, rfl, q1, q2⟩
      · obtain ⟨q1, q2⟩ := (fin 1 1 1 (by unfold gIn; rw [if_neg c6, if_neg c14])).2 c27
        exact ⟨rfl, q1, q2⟩)
    (fun as hp hl h pc P hq L hp' hL _ => by
      obtain ⟨a, b, rfl, ⟨n, hn, en⟩, ⟨m, hm, em⟩, hbb⟩ := ct2_s h
      obtain ⟨rfl, rfl⟩ := at1 hq
      obtain ⟨o, rfl, ehp, hg⟩ := hL
      have hg : gIn a b hp = 0 := hg
      obtain ⟨q1, q2⟩ := and_n0 (fGo_0.mp hg).1
      obtain ⟨i, hi, ei⟩ := ih_in (by omega) em q1
      obtain ⟨j, hj, ej⟩ := ic_in (by omega) en q2
      have ex : 80 * a + b = nI (80 * i + j) := by rw [ei, ej, show (80 : Int32) = nI 80 from rfl, pk_mul, nI_add]
      have hx := nx ex (by omega)
      have i64 : vp_in (80 * a + b) 640 := inx ex (by omega) (by omega)
      have v39 : hp'.1 39 = hp.1 39 := by rw [ehp, setT_ne _ _ (by omega)]
      have ea : cN a = i := by rw [ei, cN_nI (by omega)]
      have eb : cN b = j := by rw [ej, cN_nI (by omega)]
      have est : (mm_up hp'.1 39 (80 * a + b).toNatClampNeg 1, hp'.2) = sg a b hp := by
        rw [s1 a b hp hg, hx, ea, eb, up_as, v39, ehp]
      refine ⟨i64, ⟨i64, ⟨fun c57 => ⟨rfl, ?_, est⟩, fun c57 => ⟨rfl, ?_, est⟩⟩⟩⟩
      · have c57 : ¬ hp'.1 39 (80 * a + b).toNatClampNeg = 0 := c57
        rw [v39, hx] at c57
        show some (0 : Int32) = some (rv a b hp)
        rw [r1 a b hp hg, ea, eb, if_neg c57]
      · have c57 : hp'.1 39 (80 * a + b).toNatClampNeg = 0 := c57
        rw [v39, hx] at c57
        show some (1 : Int32) = some (rv a b hp)
        rw [r1 a b hp hg, ea, eb, if_pos c57])
def sM_into : mm_Ct := ct2 25 1 (fun _ _ hp => hvOk hp) (fun _ _ _ => 0) rInM hInM
theorem M_M_into {E : En} (hE : EOk E) : Mt E yM_into cM_into 4 (some .boolean) 6 sM_into :=
  M_M_into_g hE rInM hInM (fun h c hp => by
    unfold rInM
    split
    · exact isB_fi
    · exact Or.inl rfl) (fun h c hp q => by unfold rInM; rw [if_pos q]) (fun h c hp q => by unfold rInM; rw [if_neg q]) (fun h c hp q => by unfold hInM; rw [if_pos q]) (fun h c hp q => by unfold hInM; rw [if_neg q])

def as1 (as : List Value) : Int32 := match as with
  | [_, .int a] => a
  | _ => 0
