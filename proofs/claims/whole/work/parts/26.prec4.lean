/-! ===== DieGraphs$Precedence: the ring told ===== -/
/-- what is told: n places left, the next die, how many are told, the row -/
def fTell (f tw : Nat → Int32) : Nat → Int32 → Nat → (Nat → Int32) → Nat × (Nat → Int32)
  | 0, _, t, g => (t, g)
  | n + 1, d, t, g => if d = -1 then (t, g) else fTell f tw n (fLow (f d.toNatClampNeg &&& tw n)) (t + 1) (upd g t d)
theorem fLowF_ok (set : Int32) : ∀ (n k : Nat), n + k ≤ 32 → fLowF set n k = -1 ∨ ∃ d, d < 32 ∧ fLowF set n k = nI d
  | 0, _, _ => Or.inl rfl
  | n + 1, k, h => by
    show (if bitAt set (nI k) = 0 then fLowF set n (k + 1) else nI k) = -1 ∨ ∃ d, d < 32 ∧ (if bitAt set (nI k) = 0 then fLowF set n (k + 1) else nI k) = nI d
    split
    · exact fLowF_ok set n (k + 1) (by omega)
    · exact Or.inr ⟨k, by omega, rfl⟩
theorem fLow_ok (set : Int32) : fLow set = -1 ∨ ∃ d, d < 32 ∧ fLow set = nI d := fLowF_ok set 32 0 (by omega)
theorem fShF_1 (f : Nat → Int32) (die : Int32) : ∀ (n s : Nat) (g : Nat → Int32), n + s ≤ 33 → 1 ≤ s → (fShF f die n s g).1 = 33 ∨ ∃ k, 1 ≤ k ∧ k ≤ 32 ∧ (fShF f die n s g).1 = nI k
  | 0, _, _, _, _ => Or.inl rfl
  | n + 1, s, g, h, h1 => by
    show (if bitAt (upd g s (fBefore f (g (s - 1))) s) die = 0 then fShF f die n (s + 1) (upd g s (fBefore f (g (s - 1)))) else (nI s, upd g s (fBefore f (g (s - 1))))).1 = 33 ∨ ∃ k, 1 ≤ k ∧ k ≤ 32 ∧ (if bitAt (upd g s (fBefore f (g (s - 1))) s) die = 0 then fShF f die n (s + 1) (upd g s (fBefore f (g (s - 1)))) else (nI s, upd g s (fBefore f (g (s - 1))))).1 = nI k
    split
    · exact fShF_1 f die n (s + 1) _ (by omega) (by omega)
    · exact Or.inr ⟨s, h1, by omega, rfl⟩
theorem fSh_1 (die : Int32) (hp : mm_Hp) : (fSh die hp).1 = 33 ∨ ∃ k, 1 ≤ k ∧ k ≤ 32 ∧ (fSh die hp).1 = nI k := by
  unfold fSh
  split
  · exact Or.inl rfl
  · exact fShF_1 _ _ 32 1 _ (by omega) (by omega)
/-- how many places: one less than 33, or none -/
def rgN (x : Int32) : Nat := if x = 33 then 0 else x.toNatClampNeg
def fTellR (d : Int32) (hp : mm_Hp) : Nat × (Nat → Int32) := fTell (hp.1 16) (fSh d hp).2 (rgN (fSh d hp).1) d 0 (hp.1 19)
def fTellH (d : Int32) (hp : mm_Hp) : mm_Hp := sR (sR (sR hp 18 (fSh d hp).2) 3 (upd (hp.1 3) 9 (nI (fTellR d hp).1))) 19 (fTellR d hp).2
def sP_tellRingFrom : mm_Ct := ct1 3 0 (fun d _ => vp_in d 32) (fun _ _ => 0) (fun _ _ => 0) fTellH
def ms1 (k : Nat) (L : mm_Loc) : Nat := match L[k]? with
  | some (some (.int x)) => (x + 1).toNatClampNeg
  | _ => 0
theorem fTell_m1 (f tw : Nat → Int32) (n t : Nat) (g : Nat → Int32) : fTell f tw n (-1) t g = (t, g) := by cases n <;> rfl
theorem M_P_tellRingFrom {E : En} (hE : EOk E) : Mt E yP_tellRingFrom cP_tellRingFrom 5 none 3 sP_tellRingFrom :=
  met (n := 60) (tab := tP_tellRingFrom) (cals := [(128, sP_shortestRingWith), (197, sP_lowestOf)]) hE flP_ok pfP_ok csP_ok rfl (by decide) kP_tellRingFrom rfl (cf_v 64 (lP_64 (M_P_shortestRingWith hE) (by decide) ct1_t rfl) (cf_s 98 (lP_98 (M_P_lowestOf hE) (by decide) rfl) cf_nil)) (rt_v rfl) ct1_c (by decide) rfl
    (fun as hp pc => cond (Nat.beq pc 18) (some (fun L hp' => ∃ (d : Int32) (x y z : Int32) (t : Nat) (g : Nat → Int32), as = [.ref 3, .int d] ∧ L = [some (.ref 3), some (.int d), some (.int x), some (.int y), some (.int z)] ∧ hp' = sR (sR (sR hp 18 (fSh d hp).2) 3 (upd (hp.1 3) 9 (nI t))) 19 g ∧ (y = -1 ∨ ∃ k, k < 32 ∧ y = nI k) ∧
      ((z = 32 ∧ t = 0 ∧ g = hp.1 19 ∧ rgN (fSh d hp).1 = 0) ∨ ∃ n, z + 1 = nI n ∧ n + t ≤ 32 ∧ fTell (hp.1 16) (fSh d hp).2 n y t g = fTellR d hp))) none)
    (fun _ L _ => ms1 4 L)
    (fun as hp hl h => by
      obtain ⟨d, rfl, hP⟩ := ct1_s h
      refine ⟨⟨rfl, hP⟩, fun r2 => ⟨rfl, d, _, d, _, 0, hp.1 19, rfl, rfl, ?_, Or.inr (vp_in_of hP (by omega)), ?_⟩, fun e2 x2 => no0 x2⟩
      · show (mm_up (sR hp 18 (fSh d hp).2).1 3 9 0, (sR hp 18 (fSh d hp).2).2) = _
        rw [up_as, sR_ne (by omega)]
        refine hp_ext (fun k => ?_) rfl
        by_cases hk : k = 19
        · subst hk; rw [sR_at, sR_ne (by omega), sR_ne (by omega)]
        · rw [sR_ne hk]; rfl
      · show ((fSh d hp).1 - 1 = 32 ∧ 0 = 0 ∧ hp.1 19 = hp.1 19 ∧ rgN (fSh d hp).1 = 0) ∨ ∃ n, (fSh d hp).1 - 1 + 1 = nI n ∧ n + 0 ≤ 32 ∧ fTell (hp.1 16) (fSh d hp).2 n d 0 (hp.1 19) = fTellR d hp
        rcases fSh_1 d hp with h1 | ⟨k, hk1, hk2, ek⟩
        · exact Or.inl ⟨by rw [h1]; rfl, rfl, rfl, by rw [h1]; rfl⟩
        · refine Or.inr ⟨k, ?_, by omega, ?_⟩
          · rw [ek]
            obtain ⟨j, rfl⟩ : ∃ j, k = j + 1 := ⟨k - 1, by omega⟩
            rw [nI_pred, nI_1]
          · unfold fTellR rgN
            rw [ek, if_neg (fun q => by
              have := (nI_eq (a := k) (b := 33) (by omega) (by omega)).mp q
              omega), nIc (by omega)])
    (fun as hp hl h pc P hq L hp' hL _ => by
      obtain ⟨d, rfl, hP⟩ := ct1_s h
      obtain ⟨rfl, rfl⟩ := at1 hq
      obtain ⟨d', x, y, z, t, g, heq, rfl, rfl, hy, hz⟩ := hL
      cases heq
      have hend : ∀ (t2 : Nat) (g2 : Nat → Int32), fTellR d hp = (t2, g2) → sR (sR (sR hp 18 (fSh d hp).2) 3 (upd (hp.1 3) 9 (nI t2))) 19 g2 = fTellH d hp := by
        intro t2 g2 h2
        unfold fTellH
        rw [h2]
      rcases hz with ⟨rfl, rfl, rfl, h0⟩ | ⟨n, en, hnt, ee⟩
      · have hfin : fTellR d hp = (0, hp.1 19) := by unfold fTellR; rw [h0]; rfl
        refine ⟨fun c20 => absurd c20 (by decide), fun c20 => ⟨fun c27 => ⟨rfl, rfl, hend _ _ hfin⟩, fun c27 => absurd (by decide) c27⟩⟩
      · have ez : z = nI n - 1 := by rw [← en]; exact (Int32.add_sub_cancel z 1).symm
        refine ⟨fun c20 => ⟨rfl, rfl, ?_⟩, fun c20 => ⟨fun c27 => ?_, fun c27 => ⟨fun c32 => ⟨rfl, rfl, ?_⟩, fun c32 => ?_⟩⟩⟩
        · have c20 : z < 0 := c20
          cases n with
          | zero => exact hend _ _ ee.symm
          | succ n =>
            rw [ez, nI_pred] at c20
            exact absurd c20 (nI_pos (by omega))
        · have c20 : ¬ z < 0 := c20
          have c27 : (32 : Int32) ≤ z := c27
          cases n with
          | zero => rw [ez] at c20; exact absurd (by decide) c20
          | succ n =>
            rw [ez, nI_pred] at c27
            have := (nI_leI (a := 32) (b := n) (by omega) (by omega)).mp c27
            omega
        · have c32 : y = -1 := c32
          rw [c32, fTell_m1] at ee
          exact hend _ _ ee.symm
        · have c20 : ¬ z < 0 := c20
          have c32 : ¬ y = -1 := c32
          obtain ⟨k, hk, ey⟩ := hy.resolve_left c32
          have hyk := nx ey (by omega)
          have hn0 : n ≠ 0 := by
            intro q
            subst q
            rw [ez] at c20
            exact absurd (by decide) c20
          obtain ⟨m, rfl⟩ : ∃ m, n = m + 1 := ⟨n - 1, by omega⟩
          have ezm : z = nI m := by rw [ez, nI_pred]
          have hzm := nx ezm (by omega)
          have ht9 : vp_in (nI t) 32 := nIv (by omega) (by omega)
          have htl : upd (hp.1 3) 9 (nI t) 9 = nI t := by simp [upd]
          have hstep : fTell (hp.1 16) (fSh d hp).2 m (fLow (hp.1 16 k &&& (fSh d hp).2 m)) (t + 1) (upd g t y) = fTellR d hp := by
            rw [← ee]
            show _ = (if y = -1 then (t, g) else fTell (hp.1 16) (fSh d hp).2 m (fLow (hp.1 16 y.toNatClampNeg &&& (fSh d hp).2 m)) (t + 1) (upd g t y))
            rw [if_neg c32, hyk]
          refine ⟨?_, ⟨inx ey hk (by omega), ⟨inx ezm (by omega) (by omega), ⟨trivial, fun r69 => ⟨rfl, ⟨d, x, _, _, t + 1, upd g t y, rfl, rfl, ?_, fLow_ok _, Or.inr ⟨m, ?_, by omega, ?_⟩⟩, ?_⟩, fun e69 x69 => no0 x69⟩⟩⟩⟩
          · show vp_in (upd (hp.1 3) 9 (nI t) 9) 32
            rw [htl]; exact ht9
          · show (mm_up (mm_up (sR (sR (sR hp 18 (fSh d hp).2) 3 (upd (hp.1 3) 9 (nI t))) 19 g).1 19 (upd (hp.1 3) 9 (nI t) 9).toNatClampNeg y) 3 9 (upd (hp.1 3) 9 (nI t) 9 + 1), (sR (sR (sR hp 18 (fSh d hp).2) 3 (upd (hp.1 3) 9 (nI t))) 19 g).2) = _
            rw [htl, nIc (by omega), nI_1]
            have e1 := up_sR (sR (sR hp 18 (fSh d hp).2) 3 (upd (hp.1 3) 9 (nI t))) 19 t g y
            have e2 := up_nR (hp := sR (sR hp 18 (fSh d hp).2) 3 (upd (hp.1 3) 9 (nI t))) (c := 19) (d := 3) (by decide) 9 (upd g t y) (nI (t + 1))
            rw [sR_at, upd2, sR_sR] at e2
            rw [← e2, ← e1]
          · show z + (-1) + 1 = nI m
            rw [ezm, Int32.add_assoc, show (-1 : Int32) + 1 = 0 by decide, Int32.add_zero]
          · show fTell (hp.1 16) (fSh d hp).2 m (fLow (hp.1 16 y.toNatClampNeg &&& (fSh d hp).2 z.toNatClampNeg)) (t + 1) (upd g t y) = fTellR d hp
            rw [hyk, hzm]
            exact hstep
          · show (z + (-1) + 1).toNatClampNeg < (z + 1).toNatClampNeg
            rw [ezm, Int32.add_assoc, show (-1 : Int32) + 1 = 0 by decide, Int32.add_zero, nI_1, nIc (by omega), nIc (by omega)]
            omega)
