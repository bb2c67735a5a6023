/-! ===== the reference: settle ===== -/
def msSt (pc : Nat) (L : mm_Loc) : Nat := cond (Nat.beq pc 2) (7000000 + (2000 - msv 1 L)) (cond (Nat.beq pc 24) (6000000 + (100 - msv 1 L)) (cond (Nat.beq pc 62) (5000000 + (100 - msv 1 L) * 200 + 199) (cond (Nat.beq pc 72) (5000000 + (100 - msv 1 L) * 200 + (100 - msv 2 L)) (cond (Nat.beq pc 108) (4000000 + (2000 - msv 1 L)) (cond (Nat.beq pc 135) (3000000 + (100 - msv 1 L) * 2000 + 1999) (cond (Nat.beq pc 143) (3000000 + (100 - msv 1 L) * 2000 + (1500 - msv 2 L)) (1000000 + (100 - msv 2 L))))))))
def S1 (hp : mm_Hp) : Nat → Int32 := lp (bMr hp) (mrwN hp) (zeroR 1024 (hp.1 33))
/-- the loops of settle -/
def iSt (hp : mm_Hp) (pc : Nat) : Option (mm_Loc → mm_Hp → Prop) :=
  cond (Nat.beq pc 2) (some (fun L hp' => ∃ (i : Nat) (x : Int32), L = [some (.ref 25), some (.int x), none] ∧ x = nI i ∧ i ≤ 1024 ∧ hp' = sR hp 33 (zeroR i (hp.1 33))))
  (cond (Nat.beq pc 24) (some (fun L hp' => ∃ (i : Nat) (x : Int32), L = [some (.ref 25), some (.int x), none] ∧ x = nI i ∧ i ≤ mrwN hp ∧ hp' = sR hp 33 (lp (bMr hp) i (zeroR 1024 (hp.1 33)))))
  (cond (Nat.beq pc 62) (some (fun L hp' => ∃ (i : Nat) (x : Int32) (o : Option Value), L = [some (.ref 25), some (.int x), o] ∧ x = nI i ∧ i ≤ mszN hp ∧ hp' = sR hp 33 (lp (fun i g => lp (bC2 hp i) (mszN hp) g) i (S1 hp))))
  (cond (Nat.beq pc 72) (some (fun L hp' => ∃ (i j : Nat) (x y : Int32), L = [some (.ref 25), some (.int x), some (.int y)] ∧ x = nI i ∧ i < mszN hp ∧ y = nI j ∧ j ≤ mszN hp ∧ hp' = sR hp 33 (lp (bC2 hp i) j (lp (fun i g => lp (bC2 hp i) (mszN hp) g) i (S1 hp)))))
  (cond (Nat.beq pc 108) (some (fun L hp' => ∃ (i : Nat) (x : Int32) (o : Option Value), L = [some (.ref 25), some (.int x), o] ∧ x = nI i ∧ i ≤ 1024 ∧ hp' = sR (sR hp 33 (fSt hp)) 34 (fCopy (fSt hp) i (hp.1 34))))
  (cond (Nat.beq pc 135) (some (fun L hp' => ∃ (z : Nat) (x : Int32) (o : Option Value), L = [some (.ref 25), some (.int x), o] ∧ x = nI z ∧ z ≤ 32 ∧ hp' = sR (sR hp 33 (fSt hp)) 34 (lp (fun z e => lp (bE z) 1024 e) z (fCopy (fSt hp) 1024 (hp.1 34)))))
  (cond (Nat.beq pc 143) (some (fun L hp' => ∃ (z k : Nat) (x y : Int32), L = [some (.ref 25), some (.int x), some (.int y)] ∧ x = nI z ∧ z < 32 ∧ y = nI k ∧ k ≤ 1024 ∧ hp' = sR (sR hp 33 (fSt hp)) 34 (lp (bE z) k (lp (fun z e => lp (bE z) 1024 e) z (fCopy (fSt hp) 1024 (hp.1 34))))))
  (cond (Nat.beq pc 220) (some (fun L hp' => ∃ (d : Nat) (a y : Int32), L = [some (.ref 25), some (.int a), some (.int y)] ∧ y = nI d ∧ d ≤ 32 ∧ hp' = sR (sR hp 33 (fSt hp)) 34 (fEa (fSt hp) (hp.1 34)) ∧ a = lp (fun d a => if a = 0 then 0 else if fEa (fSt hp) (hp.1 34) (33 * d) = 0 then 1 else 0) d 1)) none)))))))
theorem upBB {hp : mm_Hp} {c i : Nat} {g : Nat → Int32} {x : Int32} (hx : isB x) : (mm_up (sR hp c g).1 c i (vp_nar .boolean x), (sR hp c g).2) = sR hp c (upd g i x) := by
  rw [isB_v hx]; exact up_sR hp c i g x
theorem k32 {k : Nat} {y : Int32} (ey : y = nI k) (hk : k < 1024) (z : Nat) : y / 32 * 32 + nI z = nI (k / 32 * 32 + z) := by
  rw [ey, show (32 : Int32) = nI 32 from rfl, pk_div (by omega) (by omega) (by omega), pk_mul, nI_add]
theorem z32 {k : Nat} {y : Int32} (ey : y = nI k) (hk : k < 1024) (z : Nat) : 32 * nI z + (y - y / 32 * 32) = nI (32 * z + k % 32) := by
  rw [ey, show (32 : Int32) = nI 32 from rfl, pk_rem (by omega) (by omega) (by omega), pk_mul, nI_add]
theorem M_M_settle_g {E : En} (hE : EOk E) (rv : mm_Hp → Int32) (sg : mm_Hp → mm_Hp) (hsg : ∀ hp, sg hp = sR (sR hp 33 (fSt hp)) 34 (fEa (fSt hp) (hp.1 34))) (hrv : ∀ hp, rv hp = lp (fun d a => if a = 0 then 0 else if fEa (fSt hp) (hp.1 34) (33 * d) = 0 then 1 else 0) 32 1) (hB : ∀ hp, isB (rv hp)) : Mt E yM_settle cM_settle 3 (some .boolean) 3 (ct0 25 1 msOk (fun _ => 0) rv sg) :=
  met (n := 60) (tab := tM_settle) (cals := [(152, sM_compare)]) hE flM_ok pfM_ok csM_ok rfl (by decide) kM_settle rfl (cf_v 76 (lM_76 (M_M_compare hE) (by decide) ct3_t rfl) cf_nil) (rt_z0 (fun hp _ => hB hp)) ct0_c (Nat.le_of_ble_eq_true rfl) rfl
    (fun as hp pc => iSt hp pc) (fun pc L _ => msSt pc L)
    (fun as hp hl h => by
      obtain ⟨rfl, hP⟩ := ct0_s h
      exact ⟨rfl, 0, _, rfl, rfl, by omega, (sR_self hp 33).symm⟩)
    (fun as hp hl h pc P hq L hp' hL _ => by
      obtain ⟨rfl, hmd, hmr⟩ := ct0_s h
      obtain ⟨n, hn, en, ez⟩ := mszE hmd.1
      obtain ⟨m, hm, em⟩ := hmr.1
      have ew : mrwN hp = m := by unfold mrwN; rw [em]; exact nIc (by omega)
      unfold iSt at hq
      rcases atc hq with ⟨rfl, rfl⟩ | hq
      · obtain ⟨i, x, rfl, ex, hi, ehp⟩ := hL
        refine ⟨fun c6 => ?_, fun c6 => ⟨?_, ?_⟩⟩
        · have := cge ex (n := 1024) rfl (by omega) (by omega) c6
          have hi2 : i = 1024 := by omega
          subst hi2
          refine ⟨rfl, ⟨0, _, rfl, rfl, by omega, ehp⟩, ?_⟩
          show 6000000 + (100 - (0 : Int32).toNatClampNeg) < 7000000 + (2000 - x.toNatClampNeg)
          omega
        · have hlt := clt ex (n := 1024) rfl (by omega) (by omega) c6
          exact inx ex (by omega) (by omega)
        · have hlt := clt ex (n := 1024) rfl (by omega) (by omega) c6
          refine ⟨rfl, ⟨i + 1, _, rfl, inc1 ex, by omega, ?_⟩, ?_⟩
          · show (mm_up hp'.1 33 x.toNatClampNeg (vp_nar .boolean 0), hp'.2) = _
            rw [ehp, upBB (Or.inl rfl), nx ex (by omega)]
            rfl
          · show 7000000 + (2000 - (x + 1).toNatClampNeg) < 7000000 + (2000 - x.toNatClampNeg)
            rw [inc1 ex, nx ex (by omega), nIc (by omega)]; omega
      rcases atc hq with ⟨rfl, rfl⟩ | hq
      · obtain ⟨i, x, rfl, ex, hi, ehp⟩ := hL
        rw [ew] at hi
        have e7 : hp'.1 25 7 = nI m := by rw [ehp, sR_ne (by omega)]; exact em
        refine ⟨fun c29 => ?_, fun c29 => ?_⟩
        · have c29 : hp'.1 25 7 ≤ x := c29
          have := cge ex e7 (by omega) (by omega) c29
          have hi2 : i = mrwN hp := by omega
          subst hi2
          refine ⟨rfl, ⟨0, _, _, rfl, rfl, by omega, ehp⟩, ?_⟩
          show 5000000 + (100 - (0 : Int32).toNatClampNeg) * 200 + 199 < 6000000 + (100 - x.toNatClampNeg)
          omega
        · have c29 : ¬ hp'.1 25 7 ≤ x := c29
          have hlt := clt ex e7 (by omega) (by omega) c29
          have hx := nx ex (by omega)
          obtain ⟨⟨b, hb, eb⟩, a, ha, ea⟩ := hmr.2 i (by omega)
          have v31 : hp'.1 31 x.toNatClampNeg = nI b := by rw [ehp, sR_ne (by omega), hx]; exact eb
          have v32 : hp'.1 32 x.toNatClampNeg = nI a := by rw [ehp, sR_ne (by omega), hx]; exact ea
          have hix : 32 * hp'.1 31 x.toNatClampNeg + hp'.1 32 x.toNatClampNeg = nI (32 * b + a) := by
            rw [v31, v32, show (32 : Int32) = nI 32 from rfl, pk_mul, nI_add]
          have hib : (32 * hp.1 31 i + hp.1 32 i).toNatClampNeg = 32 * b + a := by
            rw [eb, ea, show (32 : Int32) = nI 32 from rfl, pk_mul, nI_add]; exact nIc (by omega)
          refine ⟨inx ex (by omega) (by omega), ⟨inx ex (by omega) (by omega), ⟨?_, ⟨rfl, ⟨i + 1, _, rfl, inc1 ex, by omega, ?_⟩, ?_⟩⟩⟩⟩
          · show vp_in (32 * hp'.1 31 x.toNatClampNeg + hp'.1 32 x.toNatClampNeg) 1024
            rw [hix]; exact nIv (by omega) (by omega)
          · show (mm_up hp'.1 33 (32 * hp'.1 31 x.toNatClampNeg + hp'.1 32 x.toNatClampNeg).toNatClampNeg (vp_nar .boolean 1), hp'.2) = _
            rw [hix, nIc (by omega), ehp, upBB (Or.inr rfl), ← hib]
            rfl
          · show 6000000 + (100 - (x + 1).toNatClampNeg) < 6000000 + (100 - x.toNatClampNeg)
            rw [inc1 ex, hx, nIc (by omega)]; omega
      rcases atc hq with ⟨rfl, rfl⟩ | hq
      · obtain ⟨i, x, o, rfl, ex, hi, ehp⟩ := hL
        rw [ez] at hi
        have e1 : hp'.1 25 1 = nI n := by rw [ehp, sR_ne (by omega)]; exact en
        refine ⟨fun c67 => ?_, fun c67 => ?_⟩
        · have c67 : hp'.1 25 1 ≤ x := c67
          have := cge ex e1 (by omega) (by omega) c67
          have hi2 : i = mszN hp := by omega
          subst hi2
          refine ⟨rfl, ⟨0, _, _, rfl, rfl, by omega, ?_⟩, ?_⟩
          · have h34 : fCopy (fSt hp) 0 (hp.1 34) = (sR hp 33 (fSt hp)).1 34 := (sR_ne (by omega)).symm
            rw [h34, sR_self]
            exact ehp
          · show 4000000 + (2000 - (0 : Int32).toNatClampNeg) < 5000000 + (100 - x.toNatClampNeg) * 200 + 199
            omega
        · have c67 : ¬ hp'.1 25 1 ≤ x := c67
          have hlt := clt ex e1 (by omega) (by omega) c67
          refine ⟨rfl, ⟨i, 0, _, _, rfl, ex, by omega, rfl, by omega, ehp⟩, ?_⟩
          show 5000000 + (100 - x.toNatClampNeg) * 200 + (100 - (0 : Int32).toNatClampNeg) < 5000000 + (100 - x.toNatClampNeg) * 200 + 199
          have : (0 : Int32).toNatClampNeg = 0 := rfl
          omega
      rcases atc hq with ⟨rfl, rfl⟩ | hq
      · obtain ⟨i, j, x, y, rfl, ex, hi, ey, hj, ehp⟩ := hL
        rw [ez] at hi hj
        have e1 : hp'.1 25 1 = nI n := by rw [ehp, sR_ne (by omega)]; exact en
        refine ⟨fun c77 => ?_, fun c77 => ?_⟩
        · have c77 : hp'.1 25 1 ≤ y := c77
          have := cge ey e1 (by omega) (by omega) c77
          have hj2 : j = mszN hp := by omega
          subst hj2
          refine ⟨rfl, ⟨i + 1, _, _, rfl, inc1 ex, by omega, ehp⟩, ?_⟩
          show 5000000 + (100 - (x + 1).toNatClampNeg) * 200 + 199 < 5000000 + (100 - x.toNatClampNeg) * 200 + (100 - y.toNatClampNeg)
          rw [inc1 ex, nx ex (by omega), nx ey (by omega), nIc (by omega)]; omega
        · have c77 : ¬ hp'.1 25 1 ≤ y := c77
          have hlt := clt ey e1 (by omega) (by omega) c77
          have hc : ∀ g, mdOk (sR hp 33 g) := fun g => mdOk_sR hmd (by omega) g
          have hc2 : ∀ (g : Nat → Int32) (s : Int32), isB s → mcP x y s (sR hp 33 g) := fun g s hs => ⟨hc g, ⟨i, by rw [mszN_sR hp (by omega)]; omega, ex⟩, ⟨j, by rw [mszN_sR hp (by omega)]; omega, ey⟩, hs⟩
          refine ⟨⟨rfl, ?_⟩, fun r84 => ⟨⟨rfl, ?_⟩, fun r91 => ⟨rfl, ⟨i, j + 1, _, _, rfl, ex, by omega, inc1 ey, by omega, ?_⟩, ?_⟩, fun e91 x91 => no0 x91⟩, fun e84 x84 => no0 x84⟩
          · rw [ehp]; exact hc2 _ 0 (Or.inl rfl)
          · show mcP x y 1 (sR hp' 33 (gC hp' x y 0 (hp'.1 33)))
            rw [ehp, sR_sR]; exact hc2 _ 1 (Or.inr rfl)
          · show sR (sR hp' 33 (gC hp' x y 0 (hp'.1 33))) 33 (gC (sR hp' 33 (gC hp' x y 0 (hp'.1 33))) x y 1 ((sR hp' 33 (gC hp' x y 0 (hp'.1 33))).1 33)) = _
            rw [ehp, sR_sR, sR_sR, sR_sR, sR_at, sR_at, gC_sR, gC_sR, ex, ey]
            rfl
          · show 5000000 + (100 - x.toNatClampNeg) * 200 + (100 - (y + 1).toNatClampNeg) < 5000000 + (100 - x.toNatClampNeg) * 200 + (100 - y.toNatClampNeg)
            rw [inc1 ey, nx ey (by omega), nIc (by omega)]; omega
      rcases atc hq with ⟨rfl, rfl⟩ | hq
      · obtain ⟨i, x, o, rfl, ex, hi, ehp⟩ := hL
        refine ⟨fun c112 => ?_, fun c112 => ?_⟩
        · have := cge ex (n := 1024) rfl (by omega) (by omega) c112
          have hi2 : i = 1024 := by omega
          subst hi2
          refine ⟨rfl, ⟨0, _, _, rfl, rfl, by omega, ehp⟩, ?_⟩
          show 3000000 + (100 - (0 : Int32).toNatClampNeg) * 2000 + 1999 < 4000000 + (2000 - x.toNatClampNeg)
          omega
        · have hlt := clt ex (n := 1024) rfl (by omega) (by omega) c112
          have hx := nx ex (by omega)
          have v33 : hp'.1 33 x.toNatClampNeg = fSt hp i := by rw [ehp, sR_ne (by omega), sR_at, hx]
          refine ⟨inx ex (by omega) (by omega), ⟨inx ex (by omega) (by omega), ⟨rfl, ⟨i + 1, _, _, rfl, inc1 ex, by omega, ?_⟩, ?_⟩⟩⟩
          · show (mm_up hp'.1 34 x.toNatClampNeg (vp_nar .boolean (hp'.1 33 x.toNatClampNeg)), hp'.2) = _
            rw [v33, hx, ehp, upBB (fSt_B hp i hlt)]
            rfl
          · show 4000000 + (2000 - (x + 1).toNatClampNeg) < 4000000 + (2000 - x.toNatClampNeg)
            rw [inc1 ex, hx, nIc (by omega)]; omega
      rcases atc hq with ⟨rfl, rfl⟩ | hq
      · obtain ⟨z, x, o, rfl, ex, hz, ehp⟩ := hL
        refine ⟨fun c138 => ?_, fun c138 => ?_⟩
        · have := cge ex (n := 32) rfl (by omega) (by omega) c138
          have hz2 : z = 32 := by omega
          subst hz2
          refine ⟨rfl, ⟨0, _, _, rfl, rfl, by omega, ehp, rfl⟩, ?_⟩
          show 1000000 + (100 - (0 : Int32).toNatClampNeg) < 3000000 + (100 - x.toNatClampNeg) * 2000 + 1999
          omega
        · have hlt := clt ex (n := 32) rfl (by omega) (by omega) c138
          refine ⟨rfl, ⟨z, 0, _, _, rfl, ex, by omega, rfl, by omega, ehp⟩, ?_⟩
          show 3000000 + (100 - x.toNatClampNeg) * 2000 + (1500 - (0 : Int32).toNatClampNeg) < 3000000 + (100 - x.toNatClampNeg) * 2000 + 1999
          omega
      rcases atc hq with ⟨rfl, rfl⟩ | hq
      · obtain ⟨z, k, x, y, rfl, ex, hz, ey, hk, ehp⟩ := hL
        refine ⟨fun c147 => ?_, fun c147 => ?_⟩
        · have := cge ey (n := 1024) rfl (by omega) (by omega) c147
          have hk2 : k = 1024 := by omega
          subst hk2
          refine ⟨rfl, ⟨z + 1, _, _, rfl, inc1 ex, by omega, ehp⟩, ?_⟩
          show 3000000 + (100 - (x + 1).toNatClampNeg) * 2000 + 1999 < 3000000 + (100 - x.toNatClampNeg) * 2000 + (1500 - y.toNatClampNeg)
          rw [inc1 ex, nx ex (by omega), nx ey (by omega), nIc (by omega)]; omega
        · have hlt := clt ey (n := 1024) rfl (by omega) (by omega) c147
          have hy := nx ey (by omega)
          have ik : vp_in y 1024 := inx ey (by omega) (by omega)
          generalize he : lp (bE z) k (lp (fun z e => lp (bE z) 1024 e) z (fCopy (fSt hp) 1024 (hp.1 34))) = e at ehp
          have hn9 : lp (bE z) (k + 1) (lp (fun z e => lp (bE z) 1024 e) z (fCopy (fSt hp) 1024 (hp.1 34))) = upd e k (eNew e z k) := by rw [← he]; rfl
          have v34 : ∀ j, hp'.1 34 j = e j := fun j => by rw [ehp, sR_at]
          have i1 : y / 32 * 32 + x = nI (k / 32 * 32 + z) := by rw [ex]; exact k32 ey hlt z
          have i2 : 32 * x + (y - y / 32 * 32) = nI (32 * z + k % 32) := by rw [ex]; exact z32 ey hlt z
          have l1 : k / 32 * 32 + z < 1024 := by omega
          have l2 : 32 * z + k % 32 < 1024 := by omega
          have hfin : ∀ v : Int32, isB v → eNew e z k = v → (([] : List Value) = [] ∧ (∃ (z' k' : Nat) (x' y' : Int32), [some (Value.ref 25), some (.int x), some (.int (y + 1))] = [some (.ref 25), some (.int x'), some (.int y')] ∧ x' = nI z' ∧ z' < 32 ∧ y' = nI k' ∧ k' ≤ 1024 ∧ (mm_up hp'.1 34 y.toNatClampNeg (vp_nar .boolean v), hp'.2) = sR (sR hp 33 (fSt hp)) 34 (lp (bE z') k' (lp (fun z e => lp (bE z) 1024 e) z' (fCopy (fSt hp) 1024 (hp.1 34))))) ∧ msSt 143 [some (Value.ref 25), some (.int x), some (.int (y + 1))] < msSt 143 [some (Value.ref 25), some (.int x), some (.int y)]) := by
            intro v hv hev
            refine ⟨rfl, ⟨z, k + 1, _, _, rfl, ex, hz, inc1 ey, by omega, ?_⟩, ?_⟩
            · rw [hn9, hev, ehp, upBB hv, hy]
            · show 3000000 + (100 - x.toNatClampNeg) * 2000 + (1500 - (y + 1).toNatClampNeg) < 3000000 + (100 - x.toNatClampNeg) * 2000 + (1500 - y.toNatClampNeg)
              rw [inc1 ey, hy, nIc (by omega)]; omega
          have n32 : ¬ (32 : Int32) = 0 := by decide
          refine ⟨ik, ⟨fun c161 => ⟨ik, hfin 1 (Or.inr rfl) ?_⟩, fun c161 => ⟨n32, ⟨?_, ⟨fun c178 => ⟨ik, hfin 0 (Or.inl rfl) ?_⟩, fun c178 => ⟨n32, ⟨?_, ⟨fun c195 => ⟨ik, hfin 0 (Or.inl rfl) ?_⟩, fun c195 => ⟨ik, hfin 1 (Or.inr rfl) ?_⟩⟩⟩⟩⟩⟩⟩⟩⟩
          · have c161 : ¬ hp'.1 34 y.toNatClampNeg = 0 := c161
            rw [v34, hy] at c161
            exact if_neg c161
          · show vp_in (y / 32 * 32 + x) 1024
            rw [i1]; exact nIv l1 (by omega)
          · have c161 : hp'.1 34 y.toNatClampNeg = 0 := c161
            have c178 : hp'.1 34 (y / 32 * 32 + x).toNatClampNeg = 0 := c178
            rw [v34, hy] at c161
            rw [v34, i1, nIc (by omega)] at c178
            exact (if_pos c161).trans (if_pos c178)
          · show vp_in (32 * x + (y - y / 32 * 32)) 1024
            rw [i2]; exact nIv l2 (by omega)
          · have c161 : hp'.1 34 y.toNatClampNeg = 0 := c161
            have c178 : ¬ hp'.1 34 (y / 32 * 32 + x).toNatClampNeg = 0 := c178
            have c195 : hp'.1 34 (32 * x + (y - y / 32 * 32)).toNatClampNeg = 0 := c195
            rw [v34, hy] at c161
            rw [v34, i1, nIc (by omega)] at c178
            rw [v34, i2, nIc (by omega)] at c195
            exact (if_pos c161).trans ((if_neg c178).trans (if_pos c195))
          · have c161 : hp'.1 34 y.toNatClampNeg = 0 := c161
            have c178 : ¬ hp'.1 34 (y / 32 * 32 + x).toNatClampNeg = 0 := c178
            have c195 : ¬ hp'.1 34 (32 * x + (y - y / 32 * 32)).toNatClampNeg = 0 := c195
            rw [v34, hy] at c161
            rw [v34, i1, nIc (by omega)] at c178
            rw [v34, i2, nIc (by omega)] at c195
            exact (if_pos c161).trans ((if_neg c178).trans (if_neg c195))
      obtain ⟨rfl, rfl⟩ := at1 hq
      obtain ⟨d, a, y, rfl, ey, hd, ehp, ea⟩ := hL
      generalize he : fEa (fSt hp) (hp.1 34) = e at ehp ea
      refine ⟨fun c223 => ⟨rfl, ?_, ?_⟩, fun c223 => ?_⟩
      · have := cge ey (n := 32) rfl (by omega) (by omega) c223
        have hd2 : d = 32 := by omega
        subst hd2
        have := hrv hp
        rw [he] at this
        exact congrArg some (ea.trans this.symm)
      · have := hsg hp
        rw [he] at this
        exact ehp.trans this.symm
      · have hlt := clt ey (n := 32) rfl (by omega) (by omega) c223
        have hy := nx ey (by omega)
        have i3 : 33 * y = nI (33 * d) := by rw [ey, show (33 : Int32) = nI 33 from rfl, pk_mul]
        have v34 : hp'.1 34 (33 * y).toNatClampNeg = e (33 * d) := by rw [ehp, sR_at, i3, nIc (by omega)]
        have hstep : lp (fun d a => if a = 0 then 0 else if e (33 * d) = 0 then (1 : Int32) else 0) (d + 1) 1 = (if a = 0 then 0 else if e (33 * d) = 0 then 1 else 0) := by rw [ea]; rfl
        have hms : 1000000 + (100 - (y + 1).toNatClampNeg) < 1000000 + (100 - y.toNatClampNeg) := by
          rw [inc1 ey, hy, nIc (by omega)]; omega
        refine ⟨fun c227 => ⟨rfl, ⟨d + 1, _, _, rfl, inc1 ey, by omega, ?_, ?_⟩, hms⟩, fun c227 => ⟨?_, ⟨fun c239 => ⟨rfl, ⟨d + 1, _, _, rfl, inc1 ey, by omega, ?_, ?_⟩, hms⟩, fun c239 => ⟨rfl, ⟨d + 1, _, _, rfl, inc1 ey, by omega, ?_, ?_⟩, hms⟩⟩⟩⟩
        · rw [he]; exact ehp
        · rw [he, hstep]; exact (if_pos c227).symm
        · show vp_in (33 * y) 1024
          rw [i3]; exact nIv (by omega) (by omega)
        · rw [he]; exact ehp
        · have c239 : ¬ hp'.1 34 (33 * y).toNatClampNeg = 0 := c239
          rw [v34] at c239
          rw [he, hstep]; exact ((if_neg c227).trans (if_neg c239)).symm
        · rw [he]; exact ehp
        · have c239 : hp'.1 34 (33 * y).toNatClampNeg = 0 := c239
          rw [v34] at c239
          rw [he, hstep]; exact ((if_neg c227).trans (if_pos c239)).symm)
def hSe (hp : mm_Hp) : mm_Hp := sR (sR hp 33 (fSt hp)) 34 (fEa (fSt hp) (hp.1 34))
def rSe (hp : mm_Hp) : Int32 := fGood (fEa (fSt hp) (hp.1 34))
theorem fGood_B (e : Nat → Int32) : isB (fGood e) := by
  refine lp_all (P := isB) (fun d a h => ?_) 32 1 (Or.inr rfl)
  split
  · exact Or.inl rfl
  · exact isB_fi
def sM_settle : mm_Ct := ct0 25 1 msOk (fun _ => 0) rSe hSe
theorem M_M_settle {E : En} (hE : EOk E) : Mt E yM_settle cM_settle 3 (some .boolean) 3 sM_settle :=
  M_M_settle_g hE rSe hSe (fun hp => rfl) (fun hp => rfl) (fun hp => fGood_B _)
