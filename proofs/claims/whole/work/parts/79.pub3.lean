/-! ===== the reference: hasDie, overlap, mean ===== -/
def bHd (hs du fr bk : Nat → Int32) (i : Nat) (d : Int32) (k : Nat) (a : Int32) : Int32 := if a = 0 then (if hs (80 * i + k) = 0 then 0 else if du k = 0 then (if fr k = d then 1 else if bk k = d then 1 else 0) else 0) else 1
def fHd (h d : Int32) (hp : mm_Hp) : Int32 := lp (bHd (hp.1 39) (hp.1 29) (hp.1 26) (hp.1 27) (cN h) d) (mszN hp) 0
theorem bHd_B (hs du fr bk : Nat → Int32) (i : Nat) (d : Int32) : ∀ n, isB (lp (bHd hs du fr bk i d) n 0)
  | 0 => Or.inl rfl
  | n + 1 => by
    show isB (bHd hs du fr bk i d n (lp (bHd hs du fr bk i d) n 0))
    unfold bHd
    split
    · split
      · exact Or.inl rfl
      · split
        · split
          · exact Or.inr rfl
          · exact isB_fi
        · exact Or.inl rfl
    · exact Or.inr rfl
def hdP (h : Int32) (hp : mm_Hp) : Prop := mdOk hp ∧ (∃ i, i < 8 ∧ h = nI i)
def iHd (hp : mm_Hp) (h d : Int32) (pc : Nat) : Option (mm_Loc → mm_Hp → Prop) := cond (Nat.beq pc 5) (some (fun L hp' => ∃ (k : Nat) (z y : Int32), L = [some (.ref 25), some (.int h), some (.int d), some (.int z), some (.int y)] ∧ y = nI k ∧ k ≤ mszN hp ∧ z = lp (bHd (hp.1 39) (hp.1 29) (hp.1 26) (hp.1 27) (cN h) d) k 0 ∧ hp' = hp)) none
theorem M_M_hasDie_g {E : En} (hE : EOk E) (rv : Int32 → Int32 → mm_Hp → Int32) (hB : ∀ h d hp, isB (rv h d hp)) (r1 : ∀ h d hp, rv h d hp = lp (bHd (hp.1 39) (hp.1 29) (hp.1 26) (hp.1 27) (cN h) d) (mszN hp) 0) :
    Mt E yM_hasDie cM_hasDie 5 (some .boolean) 1 (ct2 25 1 (fun h _ hp => hdP h hp) (fun _ _ _ => 0) rv (fun _ _ hp => hp)) :=
  met (n := 60) (tab := tM_hasDie) (cals := []) hE flM_ok pfM_ok csM_ok rfl (by decide) kM_hasDie rfl cf_nil (rt_z2 (fun a b hp _ => hB a b hp)) ct2_c (Nat.le_of_ble_eq_true rfl) rfl
    (fun as hp pc => iHd hp (as2 as).1 (as2 as).2 pc) (fun pc L _ => 100 - msv 4 L)
    (fun as hp hl h => by
      obtain ⟨a, d, rfl, hP⟩ := ct2_s h
      exact ⟨rfl, 0, _, _, rfl, rfl, by omega, rfl, rfl⟩)
    (fun as hp hl h pc P hq L hp' hL _ => by
      obtain ⟨a, d, rfl, hP, i, hi, ei⟩ := ct2_s h
      obtain ⟨rfl, rfl⟩ := at1 hq
      have h80 := mszN_80 hP
      have esz : hp.1 25 1 = nI (mszN hp) := by obtain ⟨n, _, e, e2⟩ := mszE hP.1; rw [e2]; exact e
      obtain ⟨k, z, y, rfl, ey, hk, ez, rfl⟩ := hL
      have hy := nx ey (by omega)
      have ea : cN a = i := by rw [ei, cN_nI (by omega)]
      refine ⟨fun c11 => ?_, fun c11 => ?_⟩
      · have c11 : hp'.1 25 1 ≤ y := c11
        rw [esz] at c11
        have := cge ey (n := mszN hp') rfl (by omega) (by omega) c11
        have hk2 : k = mszN hp' := by omega
        subst hk2
        refine ⟨rfl, ?_, rfl⟩
        show some z = some (rv a d hp')
        rw [r1, ez]
        rfl
      · have c11 : ¬ hp'.1 25 1 ≤ y := c11
        rw [esz] at c11
        have hlt := clt ey (n := mszN hp') rfl (by omega) (by omega) c11
        have ix : 80 * a + y = nI (80 * i + k) := by rw [ei, ey, show (80 : Int32) = nI 80 from rfl, pk_mul, nI_add]
        have hix := nx ix (by omega)
        have i80 : vp_in y 80 := inx ey (by omega) (by omega)
        have i64 : vp_in (80 * a + y) 640 := inx ix (by omega) (by omega)
        have hms : 100 - (y + 1).toNatClampNeg < 100 - y.toNatClampNeg := by rw [inc1 ey, hy, nIc (by omega)]; omega
        have st : ∀ v, bHd (hp'.1 39) (hp'.1 29) (hp'.1 26) (hp'.1 27) (cN a) d k z = v → ∃ (k' : Nat) (z' y' : Int32), [some (Value.ref 25), some (.int a), some (.int d), some (.int v), some (.int (y + 1))] = [some (Value.ref 25), some (.int a), some (.int d), some (.int z'), some (.int y')] ∧ y' = nI k' ∧ k' ≤ mszN hp' ∧ z' = lp (bHd (hp'.1 39) (hp'.1 29) (hp'.1 26) (hp'.1 27) (cN a) d) k' 0 ∧ hp' = hp' := fun v hv => ⟨k + 1, _, _, rfl, inc1 ey, by omega, by rw [← hv, ez]; rfl, rfl⟩
        refine ⟨fun c15 => ?_, fun c15 => ⟨i64, ⟨fun c30 => ?_, fun c30 => ⟨i80, ⟨fun c40 => ?_, fun c40 => ⟨i80, ⟨fun c51 => ?_, fun c51 => ⟨i80, ⟨fun c62 => ?_, fun c62 => ?_⟩⟩⟩⟩⟩⟩⟩⟩⟩
        all_goals try (have c15 : z = 0 := c15)
        all_goals try (have c15 : ¬ z = 0 := c15)
        all_goals try (have c30 : hp'.1 39 (80 * a + y).toNatClampNeg = 0 := c30)
        all_goals try (have c30 : ¬ hp'.1 39 (80 * a + y).toNatClampNeg = 0 := c30)
        all_goals try rw [hix] at c30
        all_goals try (have c40 : hp'.1 29 y.toNatClampNeg = 0 := c40)
        all_goals try (have c40 : ¬ hp'.1 29 y.toNatClampNeg = 0 := c40)
        all_goals try rw [hy] at c40
        all_goals try (have c51 : hp'.1 26 y.toNatClampNeg = d := c51)
        all_goals try (have c51 : ¬ hp'.1 26 y.toNatClampNeg = d := c51)
        all_goals try rw [hy] at c51
        all_goals try (have c62 : hp'.1 27 y.toNatClampNeg = d := c62)
        all_goals try (have c62 : ¬ hp'.1 27 y.toNatClampNeg = d := c62)
        all_goals try rw [hy] at c62
        · exact ⟨rfl, st 1 (by unfold bHd; rw [if_neg c15]), hms⟩
        · exact ⟨rfl, st 0 (by unfold bHd; rw [if_pos c15, ea, if_pos c30]), hms⟩
        · exact ⟨rfl, st 0 (by unfold bHd; rw [if_pos c15, ea, if_neg c30, if_neg c40]), hms⟩
        · exact ⟨rfl, st 1 (by unfold bHd; rw [if_pos c15, ea, if_neg c30, if_pos c40, if_pos c51]), hms⟩
        · exact ⟨rfl, st 0 (by unfold bHd; rw [if_pos c15, ea, if_neg c30, if_pos c40, if_neg c51, if_neg c62]), hms⟩
        · exact ⟨rfl, st 1 (by unfold bHd; rw [if_pos c15, ea, if_neg c30, if_pos c40, if_neg c51, if_pos c62]), hms⟩)
def sM_hasDie : mm_Ct := ct2 25 1 (fun h _ hp => hdP h hp) (fun _ _ _ => 0) fHd (fun _ _ hp => hp)
theorem M_M_hasDie {E : En} (hE : EOk E) : Mt E yM_hasDie cM_hasDie 5 (some .boolean) 1 sM_hasDie :=
  M_M_hasDie_g hE fHd (fun h d hp => bHd_B _ _ _ _ _ _ _) (fun h d hp => rfl)
/-! overlap -/
def bB2 (f g : Nat → Int32) (d : Nat) (x : Int32) : Int32 := if f d = 0 then x else if g d = 0 then x else x + 1
def bS2 (f g : Nat → Int32) (d : Nat) (x : Int32) : Int32 := if f d = 0 then (if g d = 0 then x else x + 1) else x + 1
def gOv (a b p : Int32) (hp : mm_Hp) : Int32 := fGo (if fIh a hp = 0 then 0 else if fIh b hp = 0 then 0 else if fIs p = 0 then 0 else 1) 1 1
theorem lsN_24 (a b : Int32) (hp : mm_Hp) (p : Int32) : (if p = 0 then (lsN a b hp).1 25 24 else (lsN a b hp).1 25 25) = frR (cN a) (cN b) p := by
  have e1 : (lsN a b hp).1 25 24 = nI (cN a / Nat.gcd (cN a) (cN b)) := by
    unfold lsN
    dsimp only
    rw [mm_up_s, pk_un (by omega), mm_up_s, pk_us]
    rfl
  have e2 : (lsN a b hp).1 25 25 = nI (cN b / Nat.gcd (cN a) (cN b)) := by
    unfold lsN
    dsimp only
    rw [mm_up_s, pk_us]
    rfl
  unfold frR
  rw [e1, e2]
def iOv (hp : mm_Hp) (g a b p : Int32) (f1 f2 : Nat → Int32) (pc : Nat) : Option (mm_Loc → mm_Hp → Prop) := cond (Nat.beq pc 48) (some (fun L hp' => ∃ (i : Nat) (x y z : Int32) (o o2 : Option Value), L = [some (.ref 25), some (.int a), some (.int b), some (.int p), some (.int x), some (.int y), some (.int z), o, o2] ∧ z = nI i ∧ i ≤ 32 ∧ x = lp (bB2 f1 f2) i 0 ∧ y = lp (bS2 f1 f2) i 0 ∧ hp' = setT 0 hp ∧ g = 0)) none
theorem b2_nI (f g : Nat → Int32) : ∀ n, (∃ a, a ≤ n ∧ lp (bB2 f g) n 0 = nI a) ∧ ∃ b, b ≤ n ∧ lp (bS2 f g) n 0 = nI b
  | 0 => ⟨⟨0, Nat.le_refl _, rfl⟩, 0, Nat.le_refl _, rfl⟩
  | n + 1 => by
    obtain ⟨⟨a, ha, ea⟩, b, hb, eb⟩ := b2_nI f g n
    refine ⟨?_, ?_⟩
    · show ∃ a, a ≤ n + 1 ∧ bB2 f g n (lp (bB2 f g) n 0) = nI a
      rw [ea]
      unfold bB2
      split
      · exact ⟨a, by omega, rfl⟩
      · split
        · exact ⟨a, by omega, rfl⟩
        · exact ⟨a + 1, by omega, by rw [nI_1]⟩
    · show ∃ a, a ≤ n + 1 ∧ bS2 f g n (lp (bS2 f g) n 0) = nI a
      rw [eb]
      unfold bS2
      split
      · split
        · exact ⟨b, by omega, rfl⟩
        · exact ⟨b + 1, by omega, by rw [nI_1]⟩
      · exact ⟨b + 1, by omega, by rw [nI_1]⟩
def one0 (x : Int32) : Int32 := if x = 0 then 1 else x
def ovF (h : Int32 → Int32 → mm_Hp → Int32) (a b : Int32) (hp : mm_Hp) : Int32 × Int32 := (lp (bB2 (fun d => h a (nI d) (setT 0 hp)) (fun d => h b (nI d) (setT 0 hp))) 32 0, one0 (lp (bS2 (fun d => h a (nI d) (setT 0 hp)) (fun d => h b (nI d) (setT 0 hp))) 32 0))
theorem and3_n0 {x y z : Int32} (h : ¬ (if x = 0 then (0 : Int32) else if y = 0 then 0 else if z = 0 then 0 else 1) = 0) : ¬ x = 0 ∧ ¬ y = 0 ∧ ¬ z = 0 := by
  by_cases q : x = 0
  · rw [if_pos q] at h; exact absurd rfl h
  · rw [if_neg q] at h
    exact ⟨q, and_n0 h⟩
theorem M_M_overlap_g {E : En} (hE : EOk E) (hd : Int32 → Int32 → mm_Hp → Int32) (hMH : Mt E yM_hasDie cM_hasDie 5 (some .boolean) 1 (ct2 25 1 (fun h _ hp => hdP h hp) (fun _ _ _ => 0) hd (fun _ _ hp => hp))) (rv : Int32 → Int32 → Int32 → mm_Hp → Int32) (sg : Int32 → Int32 → Int32 → mm_Hp → mm_Hp) (r1 : ∀ a b p hp q, gOv a b p hp = 0 → ovF hd a b hp = q → rv a b p hp = frR (cN q.1) (cN q.2) p ∧ sg a b p hp = lsN q.1 q.2 (setT 0 hp)) (r0 : ∀ a b p hp, ¬ gOv a b p hp = 0 → rv a b p hp = 0 ∧ sg a b p hp = setT (gOv a b p hp) hp) :
    Mt E yM_overlap cM_overlap 9 (some .int) 6 (ct3 25 1 (fun _ _ _ hp => mdOk hp ∧ ∃ n, n ≤ 8 ∧ hp.1 25 17 = nI n) (fun _ _ _ _ => 0) rv sg) :=
  met (n := 60) (tab := tM_overlap) (cals := [(278, sM_isHoard), (229, sM_isSide), (206, sM_goes), (284, ct2 25 1 (fun h _ hp => hdP h hp) (fun _ _ _ => 0) hd (fun _ _ hp => hp)), (258, sM_lessen), (266, sM_told)]) hE flM_ok pfM_ok csM_ok rfl (by decide) kM_overlap rfl (cf_v 139 (lM_139 (M_M_isHoard hE) (by decide) ct1_t rfl) (cf_s 114 (lM_114 (M_M_isSide hE) (by decide) rfl) (cf_v 103 (lM_103 (M_M_goes hE) (by decide) ct3_t rfl) (cf_v 142 (lM_142 hMH (by decide) ct2_t rfl) (cf_v 129 (lM_129 (M_M_lessen hE) (by decide) ct2_t rfl) (cf_v 133 (lM_133 (M_M_told hE) (by decide) ct1_t rfl) cf_nil)))))) (rt_i rfl) ct3_c (Nat.le_of_ble_eq_true rfl) rfl
    (fun as hp pc => iOv hp (gOv (as3 as).1 (as3 as).2.1 (as3 as).2.2 hp) (as3 as).1 (as3 as).2.1 (as3 as).2.2 (fun d => hd (as3 as).1 (nI d) (setT 0 hp)) (fun d => hd (as3 as).2.1 (nI d) (setT 0 hp)) pc) (fun pc L _ => 100 - msv 6 L)
    (fun as hp hl h => by
      obtain ⟨a, b, p, rfl, hP⟩ := ct3_s h
      have fin : ∀ X Y Z : Int32, gOv a b p hp = fGo X Y Z → (¬ (if fGo X Y Z = 0 then (1 : Int32) else 0) = 0 → setT (fGo X Y Z) hp = setT 0 hp ∧ gOv a b p hp = 0) ∧ ((if fGo X Y Z = 0 then (1 : Int32) else 0) = 0 → some (0 : Int32) = some (rv a b p hp) ∧ setT (fGo X Y Z) hp = sg a b p hp) := fun X Y Z hg => by
        obtain ⟨a1, a2⟩ := go2 hg hp
        refine ⟨fun c => ⟨(a1 c).2, (a1 c).1⟩, fun c => ⟨by rw [(r0 a b p hp (a2 c).1).1], ?_⟩⟩
        rw [(r0 a b p hp (a2 c).1).2]
        exact (a2 c).2
      refine ⟨⟨rfl, trivial⟩, fun r3 => ⟨fun c6 => ⟨⟨rfl, trivial⟩, fun r31 => ⟨fun c34 => ?_, fun c34 => ?_⟩, fun e31 x31 => no0 x31⟩, fun c6 => ⟨⟨rfl, trivial⟩, fun r11 => ⟨fun c14 => ⟨⟨rfl, trivial⟩, fun r31 => ⟨fun c34 => ?_, fun c34 => ?_⟩, fun e31 x31 => no0 x31⟩, fun c14 => ⟨trivial, fun r18 => ⟨fun c21 => ⟨⟨rfl, trivial⟩, fun r31 => ⟨fun c34 => ?_, fun c34 => ?_⟩, fun e31 x31 => no0 x31⟩, fun c21 => ⟨⟨rfl, trivial⟩, fun r31 => ⟨fun c34 => ?_, fun c34 => ?_⟩, fun e31 x31 => no0 x31⟩⟩, fun e18 x18 => no0 x18⟩⟩, fun e11 x11 => no0 x11⟩⟩, fun e3 x3 => no0 x3⟩
      all_goals try (have c6 : fIh a hp = 0 := c6)
      all_goals try (have c6 : ¬ fIh a hp = 0 := c6)
      all_goals try (have c14 : fIh b hp = 0 := c14)
      all_goals try (have c14 : ¬ fIh b hp = 0 := c14)
      all_goals try (have c21 : fIs p = 0 := c21)
      all_goals try (have c21 : ¬ fIs p = 0 := c21)
      · obtain ⟨q1, q2⟩ := (fin 0 1 1 (by unfold gOv; rw [if_pos c6])).1 c34
        exact ⟨rfl, 0, _, _, _, _, _, rfl, rfl, by omega, rfl, rfl, q1, q2⟩
      · obtain ⟨q1, q2⟩ := (fin 0 1 1 (by unfold gOv; rw [if_pos c6])).2 c34
        exact ⟨rfl, q1, q2⟩
      · obtain ⟨q1, q2⟩ := (fin 0 1 1 (by unfold gOv; rw [if_neg c6, if_pos c14])).1 c34
        exact ⟨rfl, 0, _, _, _, _, _, rfl, rfl, by omega, rfl, rfl, q1, q2⟩
      · obtain ⟨q1, q2⟩ := (fin 0 1 1 (by unfold gOv; rw [if_neg c6, if_pos c14])).2 c34
        exact ⟨rfl, q1, q2⟩
      · obtain ⟨q1, q2⟩ := (fin 0 1 1 (by unfold gOv; rw [if_neg c6, if_neg c14, if_pos c21])).1 c34
        exact ⟨rfl, 0, _, _, _, _, _, rfl, rfl, by omega, rfl, rfl, q1, q2⟩
      · obtain ⟨q1, q2⟩ := (fin 0 1 1 (by unfold gOv; rw [if_neg c6, if_neg c14, if_pos c21])).2 c34
        exact ⟨rfl, q1, q2⟩
      · obtain ⟨q1, q2⟩ := (fin 1 1 1 (by unfold gOv; rw [if_neg c6, if_neg c14, if_neg c21])).1 c34
        exact ⟨rfl, 0, _, _, _, _, _, rfl, rfl, by omega, rfl, rfl, q1, q2⟩
      · obtain ⟨q1, q2⟩ := (fin 1 1 1 (by unfold gOv; rw [if_neg c6, if_neg c14, if_neg c21])).2 c34
        exact ⟨rfl, q1, q2⟩)
    (fun as hp hl h pc P hq L hp' hL _ => by
      obtain ⟨a, b, p, rfl, hP, n8, hn8, en8⟩ := ct3_s h
      obtain ⟨rfl, rfl⟩ := at1 hq
      obtain ⟨i, x, y, z, o, o2, rfl, ez, hi, ex, ey, ehp, hg⟩ := hL
      have hg : gOv a b p hp = 0 := hg
      obtain ⟨g1, g2, g3⟩ := and3_n0 (fGo_0.mp hg).1
      obtain ⟨ia, hia, eia⟩ := ih_in (by omega) en8 g1
      obtain ⟨ib, hib, eib⟩ := ih_in (by omega) en8 g2
      have hz := nx ez (by omega)
      have ex : x = lp (bB2 (fun d => hd a (nI d) (setT 0 hp)) (fun d => hd b (nI d) (setT 0 hp))) i 0 := ex
      have ey : y = lp (bS2 (fun d => hd a (nI d) (setT 0 hp)) (fun d => hd b (nI d) (setT 0 hp))) i 0 := ey
      have pa : hdP a hp' := by rw [ehp]; exact ⟨mdOk_T hP 0, ia, by omega, eia⟩
      have pb : hdP b hp' := by rw [ehp]; exact ⟨mdOk_T hP 0, ib, by omega, eib⟩
      refine ⟨fun c52 => ?_, fun c52 => ?_⟩
      · have := cge ez (n := 32) rfl (by omega) (by omega) c52
        have hi2 : i = 32 := by omega
        subst hi2
        obtain ⟨⟨A, hA, eA⟩, B, hB, eB⟩ := b2_nI (fun d => hd a (nI d) (setT 0 hp)) (fun d => hd b (nI d) (setT 0 hp)) 32
        obtain ⟨q1, q2⟩ := r1 a b p hp (x, one0 y) hg (by unfold ovF; rw [ex, ey])
        have q1 : rv a b p hp = frR (cN x) (cN (one0 y)) p := q1
        have q2 : sg a b p hp = lsN x (one0 y) (setT 0 hp) := q2
        refine ⟨fun c126 => ⟨⟨rfl, ⟨A, by omega, ex.trans eA⟩, B, by omega, ey.trans eB⟩, fun r135 => ⟨⟨rfl, trivial⟩, fun r140 => ⟨rfl, ?_, ?_⟩, fun e140 x140 => no0 x140⟩, fun e135 x135 => no0 x135⟩, fun c126 => ⟨⟨rfl, ⟨A, by omega, ex.trans eA⟩, 1, by omega, rfl⟩, fun r135 => ⟨⟨rfl, trivial⟩, fun r140 => ⟨rfl, ?_, ?_⟩, fun e140 x140 => no0 x140⟩, fun e135 x135 => no0 x135⟩⟩
        · have c126 : ¬ y = 0 := c126
          have e1 : one0 y = y := if_neg c126
          show some (if p = 0 then (lsN x y hp').1 25 24 else (lsN x y hp').1 25 25) = some (rv a b p hp)
          rw [lsN_24, q1, e1]
        · have c126 : ¬ y = 0 := c126
          have e1 : one0 y = y := if_neg c126
          show lsN x y hp' = sg a b p hp
          rw [q2, e1, ehp]
        · have c126 : y = 0 := c126
          have e1 : one0 y = 1 := if_pos c126
          show some (if p = 0 then (lsN x 1 hp').1 25 24 else (lsN x 1 hp').1 25 25) = some (rv a b p hp)
          rw [lsN_24, q1, e1]
        · have c126 : y = 0 := c126
          have e1 : one0 y = 1 := if_pos c126
          show lsN x 1 hp' = sg a b p hp
          rw [q2, e1, ehp]
      · have hlt := clt ez (n := 32) rfl (by omega) (by omega) c52
        have hms : 100 - (z + 1).toNatClampNeg < 100 - z.toNatClampNeg := by rw [inc1 ez, hz, nIc (by omega)]; omega
        have wa : hd a z hp' = hd a (nI i) (setT 0 hp) := by rw [ez, ehp]
        have wb : hd b z hp' = hd b (nI i) (setT 0 hp) := by rw [ez, ehp]
        have st : ∀ (v w : Int32) (o o2 : Option Value), bB2 (fun d => hd a (nI d) (setT 0 hp)) (fun d => hd b (nI d) (setT 0 hp)) i x = v → bS2 (fun d => hd a (nI d) (setT 0 hp)) (fun d => hd b (nI d) (setT 0 hp)) i y = w → ∃ (i' : Nat) (x' y' z' : Int32) (o' o2' : Option Value), [some (Value.ref 25), some (.int a), some (.int b), some (.int p), some (.int v), some (.int w), some (.int (z + 1)), o, o2] = [some (Value.ref 25), some (.int a), some (.int b), some (.int p), some (.int x'), some (.int y'), some (.int z'), o', o2'] ∧ z' = nI i' ∧ i' ≤ 32 ∧ x' = lp (bB2 (fun d => hd a (nI d) (setT 0 hp)) (fun d => hd b (nI d) (setT 0 hp))) i' 0 ∧ y' = lp (bS2 (fun d => hd a (nI d) (setT 0 hp)) (fun d => hd b (nI d) (setT 0 hp))) i' 0 ∧ hp' = setT 0 hp ∧ gOv a b p hp = 0 := fun v w o o2 hv hw => ⟨i + 1, _, _, _, _, _, rfl, inc1 ez, by omega, by rw [← hv, ex]; rfl, by rw [← hw, ey]; rfl, ehp, hg⟩
        refine ⟨⟨rfl, pa⟩, fun r59 => ⟨⟨rfl, pb⟩, fun r68 => ⟨fun c75 => ⟨fun c96 => absurd c75 c96, fun c96 => ⟨fun c101 => ?_, fun c101 => ?_⟩⟩, fun c75 => ⟨fun c80 => ⟨fun c96 => ?_, fun c96 => absurd c96 c75⟩, fun c80 => ⟨fun c96 => ?_, fun c96 => absurd c96 c75⟩⟩⟩, fun e68 x68 => no0 x68⟩, fun e59 x59 => no0 x59⟩
        all_goals try (have c75 : hd a z hp' = 0 := c75)
        all_goals try (have c75 : ¬ hd a z hp' = 0 := c75)
        all_goals rw [wa] at c75
        all_goals try (have c80 : hd b z hp' = 0 := c80)
        all_goals try (have c80 : ¬ hd b z hp' = 0 := c80)
        all_goals try rw [wb] at c80
        all_goals try (have c101 : hd b z hp' = 0 := c101)
        all_goals try (have c101 : ¬ hd b z hp' = 0 := c101)
        all_goals try rw [wb] at c101
        · exact ⟨rfl, st _ _ _ _ (if_pos c75) ((if_pos c75).trans (if_pos c101)), hms⟩
        · exact ⟨rfl, st _ _ _ _ (if_pos c75) ((if_pos c75).trans (if_neg c101)), hms⟩
        · exact ⟨rfl, st _ _ _ _ ((if_neg c75).trans (if_pos c80)) (if_neg c75), hms⟩
        · exact ⟨rfl, st _ _ _ _ ((if_neg c75).trans (if_neg c80)) (if_neg c75), hms⟩)
def rOvM (a b p : Int32) (hp : mm_Hp) : Int32 := if gOv a b p hp = 0 then frR (cN (ovF fHd a b hp).1) (cN (ovF fHd a b hp).2) p else 0
def hOvM (a b p : Int32) (hp : mm_Hp) : mm_Hp := if gOv a b p hp = 0 then lsN (ovF fHd a b hp).1 (ovF fHd a b hp).2 (setT 0 hp) else setT (gOv a b p hp) hp
def sM_overlap : mm_Ct := ct3 25 1 (fun _ _ _ hp => mdOk hp ∧ ∃ n, n ≤ 8 ∧ hp.1 25 17 = nI n) (fun _ _ _ _ => 0) rOvM hOvM
theorem M_M_overlap {E : En} (hE : EOk E) : Mt E yM_overlap cM_overlap 9 (some .int) 6 sM_overlap :=
  M_M_overlap_g hE fHd (M_M_hasDie hE) rOvM hOvM (fun a b p hp q h e => by unfold rOvM hOvM; rw [if_pos h, if_pos h, e]; exact ⟨rfl, rfl⟩) (fun a b p hp h => by unfold rOvM hOvM; rw [if_neg h, if_neg h]; exact ⟨rfl, rfl⟩)
