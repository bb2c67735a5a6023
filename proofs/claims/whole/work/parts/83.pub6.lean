/-! ===== the reference: mean ===== -/
def gMn (d p : Int32) : Int32 := fGo (if fId d = 0 then 0 else if fIs p = 0 then 0 else 1) 1 1
def bMm (du fr gr lb : Nat → Int32) (l : Int32) (k : Nat) (q : Int32 × Int32) : Int32 × Int32 := if du k = 0 then (if lb (cN (fr k)) = l then (q.1 + gr k, q.2 + 1) else q) else q
def grOk (hp : mm_Hp) : Prop := ∀ k, k < mszN hp → ∃ w, w ≤ 1000000 ∧ hp.1 28 k = nI w
theorem mm_nI {du fr gr lb : Nat → Int32} {l : Int32} : ∀ {n : Nat}, (∀ k, k < n → ∃ w, w ≤ 1000000 ∧ gr k = nI w) → ∃ A C, A ≤ n * 1000000 ∧ C ≤ n ∧ lp (bMm du fr gr lb l) n (0, 0) = (nI A, nI C)
  | 0, _ => ⟨0, 0, by omega, by omega, rfl⟩
  | n + 1, h => by
    obtain ⟨A, C, hA, hC, e⟩ := mm_nI (du := du) (fr := fr) (gr := gr) (lb := lb) (l := l) (n := n) (fun k hk => h k (by omega))
    obtain ⟨w, hw, ew⟩ := h n (by omega)
    show ∃ A C, A ≤ (n + 1) * 1000000 ∧ C ≤ n + 1 ∧ bMm du fr gr lb l n (lp (bMm du fr gr lb l) n (0, 0)) = (nI A, nI C)
    rw [e]
    unfold bMm
    split
    · split
      · exact ⟨A + w, C + 1, by omega, by omega, by rw [ew]; show (nI A + nI w, nI C + 1) = _; rw [nI_add, nI_1]⟩
      · exact ⟨A, C, Nat.le_trans hA (Nat.mul_le_mul_right _ (Nat.le_succ n)), by omega, rfl⟩
    · exact ⟨A, C, Nat.le_trans hA (Nat.mul_le_mul_right _ (Nat.le_succ n)), by omega, rfl⟩
def iMn (hp h1 : mm_Hp) (d p : Int32) (lb : Nat → Int32) (pc : Nat) : Option (mm_Loc → mm_Hp → Prop) := cond (Nat.beq pc 42) (some (fun L hp' => ∃ (k : Nat) (s n y : Int32) (o : Option Value), L = [some (.ref 25), some (.int d), some (.int p), some (.int s), some (.int n), some (.int y), o] ∧ y = nI k ∧ k ≤ mszN hp ∧ (s, n) = lp (bMm (hp.1 29) (hp.1 26) (hp.1 28) lb (lb (cN d))) k (0, 0) ∧ hp' = h1 ∧ gMn d p = 0)) none
theorem M_M_mean_g {E : En} (hE : EOk E) (hl : mm_Hp → mm_Hp) (hML : Mt E yM_link cM_link 5 none 1 (ct0 25 0 mdOk (fun _ => 0) (fun _ => 0) hl)) (hln : ∀ hp c, c ≠ 37 → (hl hp).1 c = hp.1 c) (g : mm_Hp → Nat → Int32) (hg : ∀ hp, (hl (setT 0 hp)).1 37 = g hp) (rv : Int32 → Int32 → mm_Hp → Int32) (sg : Int32 → Int32 → mm_Hp → mm_Hp) (r1 : ∀ d p hp q, gMn d p = 0 → lp (bMm (hp.1 29) (hp.1 26) (hp.1 28) (g hp) (g hp (cN d))) (mszN hp) (0, 0) = q → rv d p hp = frR (cN q.1) (cN (one0 q.2)) p ∧ sg d p hp = lsN q.1 (one0 q.2) (hl (setT 0 hp))) (r0 : ∀ d p hp, ¬ gMn d p = 0 → rv d p hp = 0 ∧ sg d p hp = setT (gMn d p) hp) :
    Mt E yM_mean cM_mean 7 (some .int) 6 (ct2 25 1 (fun _ _ hp => mdOk hp ∧ grOk hp) (fun _ _ _ => 0) rv sg) :=
  met (n := 60) (tab := tM_mean) (cals := [(235, sM_isDie), (229, sM_isSide), (206, sM_goes), (240, ct0 25 0 mdOk (fun _ => 0) (fun _ => 0) hl), (258, sM_lessen), (266, sM_told)]) hE flM_ok pfM_ok csM_ok rfl (by decide) kM_mean rfl (cf_s 117 (lM_117 (M_M_isDie hE) (by decide) rfl) (cf_s 114 (lM_114 (M_M_isSide hE) (by decide) rfl) (cf_v 103 (lM_103 (M_M_goes hE) (by decide) ct3_t rfl) (cf_v 120 (lM_120 hML (by decide) ct0_t rfl) (cf_v 129 (lM_129 (M_M_lessen hE) (by decide) ct2_t rfl) (cf_v 133 (lM_133 (M_M_told hE) (by decide) ct1_t rfl) cf_nil)))))) (rt_i rfl) ct2_c (Nat.le_of_ble_eq_true rfl) rfl
    (fun as hp pc => iMn hp (hl (setT 0 hp)) (as2 as).1 (as2 as).2 (g hp) pc) (fun pc L _ => 100 - msv 5 L)
    (fun as hp hl2 h => by
      obtain ⟨d, p, rfl, hP, _⟩ := ct2_s h
      have fin : ∀ X Y Z : Int32, gMn d p = fGo X Y Z → (¬ (if fGo X Y Z = 0 then (1 : Int32) else 0) = 0 → setT (fGo X Y Z) hp = setT 0 hp ∧ gMn d p = 0) ∧ ((if fGo X Y Z = 0 then (1 : Int32) else 0) = 0 → some (0 : Int32) = some (rv d p hp) ∧ setT (fGo X Y Z) hp = sg d p hp) := fun X Y Z hg => by
        obtain ⟨a1, a2⟩ := go2 hg hp
        refine ⟨fun q => ⟨(a1 q).2, (a1 q).1⟩, fun q => ⟨by rw [(r0 d p hp (a2 q).1).1], ?_⟩⟩
        rw [(r0 d p hp (a2 q).1).2]
        exact (a2 q).2
      refine ⟨trivial, fun r2 => ⟨fun c5 => ⟨⟨rfl, trivial⟩, fun r22 => ⟨fun c25 => ⟨⟨rfl, mdOk_T hP _⟩, fun r31 => ?_, fun e31 x31 => no0 x31⟩, fun c25 => ?_⟩, fun e22 x22 => no0 x22⟩, fun c5 => ⟨trivial, fun r9 => ⟨fun c12 => ⟨⟨rfl, trivial⟩, fun r22 => ⟨fun c25 => ⟨⟨rfl, mdOk_T hP _⟩, fun r31 => ?_, fun e31 x31 => no0 x31⟩, fun c25 => ?_⟩, fun e22 x22 => no0 x22⟩, fun c12 => ⟨⟨rfl, trivial⟩, fun r22 => ⟨fun c25 => ⟨⟨rfl, mdOk_T hP _⟩, fun r31 => ?_, fun e31 x31 => no0 x31⟩, fun c25 => ?_⟩, fun e22 x22 => no0 x22⟩⟩, fun e9 x9 => no0 x9⟩⟩, fun e2 x2 => no0 x2⟩
      all_goals try (have c5 : fId d = 0 := c5)
      all_goals try (have c5 : ¬ fId d = 0 := c5)
      all_goals try (have c12 : fIs p = 0 := c12)
      all_goals try (have c12 : ¬ fIs p = 0 := c12)
      · obtain ⟨q1, q2⟩ := (fin 0 1 1 (by unfold gMn; rw [if_pos c5])).1 c25
        exact ⟨rfl, 0, _, _, _, _, rfl, rfl, by omega, rfl, congrArg hl q1, q2⟩
      · obtain ⟨q1, q2⟩ := (fin 0 1 1 (by unfold gMn; rw [if_pos c5])).2 c25
        exact ⟨rfl, q1, q2⟩
      · obtain ⟨q1, q2⟩ := (fin 0 1 1 (by unfold gMn; rw [if_neg c5, if_pos c12])).1 c25
        exact ⟨rfl, 0, _, _, _, _, rfl, rfl, by omega, rfl, congrArg hl q1, q2⟩
      · obtain ⟨q1, q2⟩ := (fin 0 1 1 (by unfold gMn; rw [if_neg c5, if_pos c12])).2 c25
        exact ⟨rfl, q1, q2⟩
      · obtain ⟨q1, q2⟩ := (fin 1 1 1 (by unfold gMn; rw [if_neg c5, if_neg c12])).1 c25
        exact ⟨rfl, 0, _, _, _, _, rfl, rfl, by omega, rfl, congrArg hl q1, q2⟩
      · obtain ⟨q1, q2⟩ := (fin 1 1 1 (by unfold gMn; rw [if_neg c5, if_neg c12])).2 c25
        exact ⟨rfl, q1, q2⟩)
    (fun as hp hl2 h pc P hq L hp' hL _ => by
      obtain ⟨d, p, rfl, hP, hG⟩ := ct2_s h
      obtain ⟨rfl, rfl⟩ := at1 hq
      obtain ⟨k, s, n, y, o, rfl, ey, hk, esn, ehp, hgg⟩ := hL
      have hgg : gMn d p = 0 := hgg
      have esn : (s, n) = lp (bMm (hp.1 29) (hp.1 26) (hp.1 28) (g hp) (g hp (cN d))) k (0, 0) := esn
      have h80 := mszN_80 hP
      have esz : hp.1 25 1 = nI (mszN hp) := by obtain ⟨n, _, e, e2⟩ := mszE hP.1; rw [e2]; exact e
      have v25 : hp'.1 25 1 = nI (mszN hp) := by rw [ehp, hln _ _ (by omega), setT_25 _ _ (by omega)]; exact esz
      have w26 : hp'.1 26 = hp.1 26 := by rw [ehp, hln _ _ (by omega), setT_ne _ _ (by omega)]
      have w28 : hp'.1 28 = hp.1 28 := by rw [ehp, hln _ _ (by omega), setT_ne _ _ (by omega)]
      have w29 : hp'.1 29 = hp.1 29 := by rw [ehp, hln _ _ (by omega), setT_ne _ _ (by omega)]
      have w37 : hp'.1 37 = g hp := by rw [ehp]; exact hg hp
      have hy := nx ey (by omega)
      obtain ⟨kd, hkd, ekd⟩ := id_in (and_n0 (fGo_0.mp hgg).1).1
      have idd : vp_in d 32 := inx ekd hkd (by omega)
      have hcd : d.toNatClampNeg = cN d := rfl
      refine ⟨fun c48 => ?_, fun c48 => ?_⟩
      · have c48 : hp'.1 25 1 ≤ y := c48
        rw [v25] at c48
        have := cge ey (n := mszN hp) rfl (by omega) (by omega) c48
        have hk2 : k = mszN hp := by omega
        rw [hk2] at esn
        obtain ⟨A, C, hA, hC, e⟩ := mm_nI (du := hp.1 29) (fr := hp.1 26) (gr := hp.1 28) (lb := g hp) (l := g hp (cN d)) (n := mszN hp) hG
        rw [← esn] at e
        have eA : s = nI A := congrArg Prod.fst e
        have eC : n = nI C := congrArg Prod.snd e
        obtain ⟨q1, q2⟩ := r1 d p hp (s, n) hgg esn.symm
        have q1 : rv d p hp = frR (cN s) (cN (one0 n)) p := q1
        have q2 : sg d p hp = lsN s (one0 n) (hl (setT 0 hp)) := q2
        refine ⟨fun c134 => ⟨⟨rfl, ⟨A, by omega, eA⟩, C, by omega, eC⟩, fun r143 => ⟨⟨rfl, trivial⟩, fun r148 => ⟨rfl, ?_, ?_⟩, fun e148 x148 => no0 x148⟩, fun e143 x143 => no0 x143⟩, fun c134 => ⟨⟨rfl, ⟨A, by omega, eA⟩, 1, by omega, rfl⟩, fun r143 => ⟨⟨rfl, trivial⟩, fun r148 => ⟨rfl, ?_, ?_⟩, fun e148 x148 => no0 x148⟩, fun e143 x143 => no0 x143⟩⟩
        · have c134 : ¬ n = 0 := c134
          have e1 : one0 n = n := if_neg c134
          show some (if p = 0 then (lsN s n hp').1 25 24 else (lsN s n hp').1 25 25) = some (rv d p hp)
          rw [lsN_24, q1, e1]
        · have c134 : ¬ n = 0 := c134
          have e1 : one0 n = n := if_neg c134
          show lsN s n hp' = sg d p hp
          rw [q2, e1, ehp]
        · have c134 : n = 0 := c134
          have e1 : one0 n = 1 := if_pos c134
          show some (if p = 0 then (lsN s 1 hp').1 25 24 else (lsN s 1 hp').1 25 25) = some (rv d p hp)
          rw [lsN_24, q1, e1]
        · have c134 : n = 0 := c134
          have e1 : one0 n = 1 := if_pos c134
          show lsN s 1 hp' = sg d p hp
          rw [q2, e1, ehp]
      · have c48 : ¬ hp'.1 25 1 ≤ y := c48
        rw [v25] at c48
        have hlt := clt ey (n := mszN hp) rfl (by omega) (by omega) c48
        have iy : vp_in y 80 := inx ey (by omega) (by omega)
        have hms : 100 - (y + 1).toNatClampNeg < 100 - y.toNatClampNeg := by rw [inc1 ey, hy, nIc (by omega)]; omega
        obtain ⟨_, ⟨fr, hfr, efr⟩, _⟩ := hP.2 k hlt
        have i26 : vp_in (hp'.1 26 y.toNatClampNeg) 32 := by rw [w26, hy, efr]; exact nIv (by omega) (by omega)
        have st : ∀ (s' n' : Int32) (o : Option Value), bMm (hp.1 29) (hp.1 26) (hp.1 28) (g hp) (g hp (cN d)) k (s, n) = (s', n') → ∃ (k2 : Nat) (s2 n2 y2 : Int32) (o2 : Option Value), [some (Value.ref 25), some (.int d), some (.int p), some (.int s'), some (.int n'), some (.int (y + 1)), o] = [some (Value.ref 25), some (.int d), some (.int p), some (.int s2), some (.int n2), some (.int y2), o2] ∧ y2 = nI k2 ∧ k2 ≤ mszN hp ∧ (s2, n2) = lp (bMm (hp.1 29) (hp.1 26) (hp.1 28) (g hp) (g hp (cN d))) k2 (0, 0) ∧ hp' = hl (setT 0 hp) ∧ gMn d p = 0 := fun s' n' o hv => ⟨k + 1, _, _, _, _, rfl, inc1 ey, by omega, by rw [← hv, esn]; rfl, ehp, hgg⟩
        refine ⟨iy, ⟨fun c58 => ⟨fun c91 => ⟨fun c110 => ⟨rfl, st s n _ ?_, hms⟩, fun c110 => absurd rfl c110⟩, fun c91 => absurd rfl c91⟩, fun c58 => ⟨iy, ⟨i26, ⟨idd, ⟨fun c79 => ⟨fun c91 => ⟨fun c110 => ⟨rfl, st s n _ ?_, hms⟩, fun c110 => absurd rfl c110⟩, fun c91 => absurd rfl c91⟩, fun c79 => ⟨fun c91 => absurd (show (1 : Int32) = 0 from c91) (by decide), fun c91 => ⟨iy, ⟨fun c110 => absurd (show (1 : Int32) = 0 from c110) (by decide), fun c110 => ⟨rfl, st (s + hp'.1 28 y.toNatClampNeg) (n + 1) _ ?_, hms⟩⟩⟩⟩⟩⟩⟩⟩⟩⟩
        all_goals try (have c58 : hp'.1 29 y.toNatClampNeg = 0 := c58)
        all_goals try (have c58 : ¬ hp'.1 29 y.toNatClampNeg = 0 := c58)
        all_goals rw [w29, hy] at c58
        all_goals unfold bMm
        · rw [if_neg c58]
        · have c79 : ¬ hp'.1 37 (hp'.1 26 y.toNatClampNeg).toNatClampNeg = hp'.1 37 d.toNatClampNeg := c79
          rw [w37, w26, hy, hcd] at c79
          have c79 : ¬ g hp (cN (hp.1 26 k)) = g hp (cN d) := c79
          rw [if_pos c58, if_neg c79]
        · have c79 : hp'.1 37 (hp'.1 26 y.toNatClampNeg).toNatClampNeg = hp'.1 37 d.toNatClampNeg := c79
          rw [w37, w26, hy, hcd] at c79
          have c79 : g hp (cN (hp.1 26 k)) = g hp (cN d) := c79
          rw [if_pos c58, if_pos c79, w28, hy])
def mnF (d : Int32) (hp : mm_Hp) : Int32 × Int32 := lp (bMm (hp.1 29) (hp.1 26) (hp.1 28) (labM hp) (labM hp (cN d))) (mszN hp) (0, 0)
def rMnM (d p : Int32) (hp : mm_Hp) : Int32 := if gMn d p = 0 then frR (cN (mnF d hp).1) (cN (one0 (mnF d hp).2)) p else 0
def hMnM (d p : Int32) (hp : mm_Hp) : mm_Hp := if gMn d p = 0 then lsN (mnF d hp).1 (one0 (mnF d hp).2) (hLi (setT 0 hp)) else setT (gMn d p) hp
def sM_mean : mm_Ct := ct2 25 1 (fun _ _ hp => mdOk hp ∧ grOk hp) (fun _ _ _ => 0) rMnM hMnM
theorem M_M_mean {E : En} (hE : EOk E) : Mt E yM_mean cM_mean 7 (some .int) 6 sM_mean :=
  M_M_mean_g hE hLi (M_M_link hE) (fun hp c h => hLi_ne hp h) labM (fun hp => by rw [hLi_37, labM_T]) rMnM hMnM (fun d p hp q h e => by unfold rMnM hMnM mnF; rw [if_pos h, if_pos h, e]; exact ⟨rfl, rfl⟩) (fun d p hp h => by unfold rMnM hMnM; rw [if_neg h, if_neg h]; exact ⟨rfl, rfl⟩)
