/-! ===== the reference: fault ===== -/
def okQ (g : Nat → Int32) (t i : Nat) (q : Nat × Nat) : Prop := auF g t 0 (0, 0) = auF g (t - i) i q ∧ q.1 ≤ 6 ∧ q.2 ≤ 7
def ftV (q : Nat × Nat) (s y1 y2 z : Int32) : Prop := (z = 0 ∧ auS q s = none) ∨ (¬ z = 0 ∧ ∃ q', auS q s = some q' ∧ y1 = nI q'.1 ∧ y2 = nI q'.2 ∧ q'.1 ≤ 6 ∧ q'.2 ≤ 7)
def msFt (pc : Nat) (L : mm_Loc) : Nat := cond (Nat.beq pc 6) ((100 - msv 3 L) * 10 + 5) (cond (Nat.beq pc 76) ((100 - msv 3 L) * 10 + 4) (cond (Nat.beq pc 182) ((100 - msv 3 L) * 10 + 3) ((100 - msv 3 L) * 10 + 2)))
def iFt (hp : mm_Hp) (g : Nat → Int32) (t : Nat) (pc : Nat) : Option (mm_Loc → mm_Hp → Prop) :=
  cond (Nat.beq pc 6) (some (fun L hp' => ∃ (i : Nat) (q : Nat × Nat) (x1 x2 x3 : Int32) (o4 o5 o6 o7 : Option Value), L = [some (.ref 25), some (.int x1), some (.int x2), some (.int x3), o4, o5, o6, o7] ∧ x1 = nI q.1 ∧ x2 = nI q.2 ∧ x3 = nI i ∧ i ≤ t ∧ okQ g t i q ∧ hp' = hp))
  (cond (Nat.beq pc 76) (some (fun L hp' => ∃ (i : Nat) (q : Nat × Nat) (x1 x2 x3 s z7 : Int32) (o5 o6 : Option Value), L = [some (.ref 25), some (.int x1), some (.int x2), some (.int x3), some (.int s), o5, o6, some (.int z7)] ∧ x1 = nI q.1 ∧ x2 = nI q.2 ∧ x3 = nI i ∧ i < t ∧ s = g i ∧ q.1 < 2 ∧ ((isSt s ∧ ¬ z7 = 0) ∨ (¬ isSt s ∧ z7 = 0)) ∧ okQ g t i q ∧ hp' = hp))
  (cond (Nat.beq pc 182) (some (fun L hp' => ∃ (i : Nat) (q : Nat × Nat) (x1 x2 x3 s : Int32) (o5 o6 o7 : Option Value), L = [some (.ref 25), some (.int x1), some (.int x2), some (.int x3), some (.int s), o5, o6, o7] ∧ x1 = nI q.1 ∧ x2 = nI q.2 ∧ x3 = nI i ∧ i < t ∧ s = g i ∧ ¬ q.1 < 2 ∧ ¬ (q.1 = 2 ∨ q.1 = 5) ∧ ¬ (¬ fDig s = 0 ∧ ¬ q.1 = 4) ∧ okQ g t i q ∧ hp' = hp))
  (cond (Nat.beq pc 222) (some (fun L hp' => ∃ (i : Nat) (q : Nat × Nat) (y1 y2 x3 s z6 : Int32) (o5 o7 : Option Value), L = [some (.ref 25), some (.int y1), some (.int y2), some (.int x3), some (.int s), o5, some (.int z6), o7] ∧ x3 = nI i ∧ i < t ∧ s = g i ∧ ftV q s y1 y2 z6 ∧ okQ g t i q ∧ hp' = hp)) none)))
theorem ft_m {i a b : Nat} (h : b < a) : (100 - i) * 10 + b < (100 - i) * 10 + a := by omega
theorem ft_i {i : Nat} (h : i < 100) : (100 - (i + 1)) * 10 + 5 < (100 - i) * 10 + 2 := by omega
theorem M_M_fault_g {E : En} (hE : EOk E) (rv : mm_Hp → Int32) (r1 : ∀ hp t, t ≤ 40 → hp.1 25 19 = nI t → rv hp = auF (hp.1 40) t 0 (0, 0)) :
    Mt E yM_fault cM_fault 8 (some .int) 2 (ct0 25 1 (fun hp => ∃ t, t ≤ 40 ∧ hp.1 25 19 = nI t) (fun _ => 0) rv (fun hp => hp)) :=
  met (n := 60) (tab := tM_fault) (cals := [(197, sM_within)]) hE flM_ok pfM_ok csM_ok rfl (by decide) kM_fault rfl (cf_s 98 (lM_98 (M_M_within hE) (by decide) rfl) cf_nil) (rt_i rfl) ct0_c (Nat.le_of_ble_eq_true rfl) rfl
    (fun as hp pc => iFt hp (hp.1 40) (cN (hp.1 25 19)) pc) (fun pc L _ => msFt pc L)
    (fun as hp hl h => by
      obtain ⟨rfl, t, ht, et⟩ := ct0_s h
      have hct : cN (hp.1 25 19) = t := by rw [et, cN_nI (by omega)]
      exact ⟨rfl, 0, (0, 0), _, _, _, _, _, _, _, rfl, rfl, rfl, rfl, by omega, ⟨by rw [Nat.sub_zero], by show 0 ≤ 6; omega, by show 0 ≤ 7; omega⟩, rfl⟩)
    (fun as hp hl h pc P hq L hp' hL _ => by
      obtain ⟨rfl, t, ht, et⟩ := ct0_s h
      have hct : cN (hp.1 25 19) = t := by rw [et, cN_nI (by omega)]
      have er := r1 hp t ht et
      subst hct
      unfold iFt at hq
      rcases atc hq with ⟨rfl, rfl⟩ | hq
      · obtain ⟨i, q, x1, x2, x3, o4, o5, o6, o7, rfl, e1, e2, e3, hi, hQ, rfl⟩ := hL
        have hx3 := nx e3 (by omega)
        have q6 := hQ.2.1
        have q7 := hQ.2.2
        refine ⟨fun c11 => ⟨fun c238 => ⟨rfl, ?_, rfl⟩, fun c238 => ⟨rfl, ?_, rfl⟩⟩, fun c11 => ?_⟩
        · have c11 : hp'.1 25 19 ≤ x3 := c11
          rw [et] at c11
          have := cge e3 (n := cN (hp'.1 25 19)) rfl (by omega) (by omega) c11
          have hi2 : i = cN (hp'.1 25 19) := by omega
          have c238 : ¬ x1 = 6 := c238
          rw [e1] at c238
          have n6 : ¬ q.1 = 6 := fun r => c238 (by rw [r]; rfl)
          show some (hp'.1 25 19) = some (rv hp')
          rw [er, hQ.1, hi2, auF_e n6]
          exact congrArg some et
        · have c11 : hp'.1 25 19 ≤ x3 := c11
          rw [et] at c11
          have := cge e3 (n := cN (hp'.1 25 19)) rfl (by omega) (by omega) c11
          have hi2 : i = cN (hp'.1 25 19) := by omega
          have c238 : x1 = 6 := c238
          rw [e1] at c238
          have n6 : q.1 = 6 := (nI_eq (b := 6) (by omega) (by omega)).mp c238
          show some (-1 : Int32) = some (rv hp')
          rw [er, hQ.1, hi2, auF_6 n6]
        · have c11 : ¬ hp'.1 25 19 ≤ x3 := c11
          rw [et] at c11
          have hlt := clt e3 (n := cN (hp'.1 25 19)) rfl (by omega) (by omega) c11
          have hs : hp'.1 40 x3.toNatClampNeg = hp'.1 40 i := by rw [hx3]
          have hd : fWi (hp'.1 40 x3.toNatClampNeg) 48 57 = fDig (hp'.1 40 i) := by rw [hs]; rfl
          have i2 : ∀ v : Nat, v ≤ 100 → (x1 = nI v ↔ q.1 = v) := fun v hv => by rw [e1]; exact nI_eq (by omega) (by omega)
          have f5 : ∀ v : Nat, v < 5 → (100 - x3.toNatClampNeg) * 10 + v < (100 - x3.toNatClampNeg) * 10 + 5 := fun v hv => ft_m hv
          have to222 : ∀ (y1 y2 z6 : Int32) (o5 o7 : Option Value), ftV q (hp'.1 40 i) y1 y2 z6 → ∃ (i' : Nat) (q' : Nat × Nat) (y1' y2' x3' s z6' : Int32) (o5' o7' : Option Value), [some (Value.ref 25), some (.int y1), some (.int y2), some (.int x3), some (.int (hp'.1 40 x3.toNatClampNeg)), o5, some (.int z6), o7] = [some (Value.ref 25), some (.int y1'), some (.int y2'), some (.int x3'), some (.int s), o5', some (.int z6'), o7'] ∧ x3' = nI i' ∧ i' < cN (hp'.1 25 19) ∧ s = hp'.1 40 i' ∧ ftV q' s y1' y2' z6' ∧ okQ (hp'.1 40) (cN (hp'.1 25 19)) i' q' ∧ hp' = hp' := fun y1 y2 z6 o5 o7 hv => ⟨i, q, _, _, _, _, _, _, _, rfl, e3, hlt, hs, by rw [hs]; exact hv, hQ, rfl⟩
          have to182 : ∀ (o5 o6 o7 : Option Value), ¬ q.1 < 2 → ¬ (q.1 = 2 ∨ q.1 = 5) → ¬ (¬ fDig (hp'.1 40 i) = 0 ∧ ¬ q.1 = 4) → ∃ (i' : Nat) (q' : Nat × Nat) (x1' x2' x3' s : Int32) (o5' o6' o7' : Option Value), [some (Value.ref 25), some (.int x1), some (.int x2), some (.int x3), some (.int (hp'.1 40 x3.toNatClampNeg)), o5, o6, o7] = [some (Value.ref 25), some (.int x1'), some (.int x2'), some (.int x3'), some (.int s), o5', o6', o7'] ∧ x1' = nI q'.1 ∧ x2' = nI q'.2 ∧ x3' = nI i' ∧ i' < cN (hp'.1 25 19) ∧ s = hp'.1 40 i' ∧ ¬ q'.1 < 2 ∧ ¬ (q'.1 = 2 ∨ q'.1 = 5) ∧ ¬ (¬ fDig s = 0 ∧ ¬ q'.1 = 4) ∧ okQ (hp'.1 40) (cN (hp'.1 25 19)) i' q' ∧ hp' = hp' := fun o5 o6 o7 h1 h2 h3 => ⟨i, q, _, _, _, _, _, _, _, rfl, e1, e2, e3, hlt, hs, h1, h2, by rw [hs]; exact h3, hQ, rfl⟩
          have to76 : ∀ (z7 : Int32) (o5 o6 : Option Value), q.1 < 2 → ((isSt (hp'.1 40 i) ∧ ¬ z7 = 0) ∨ (¬ isSt (hp'.1 40 i) ∧ z7 = 0)) → ∃ (i' : Nat) (q' : Nat × Nat) (x1' x2' x3' s z7' : Int32) (o5' o6' : Option Value), [some (Value.ref 25), some (.int x1), some (.int x2), some (.int x3), some (.int (hp'.1 40 x3.toNatClampNeg)), o5, o6, some (.int z7)] = [some (Value.ref 25), some (.int x1'), some (.int x2'), some (.int x3'), some (.int s), o5', o6', some (.int z7')] ∧ x1' = nI q'.1 ∧ x2' = nI q'.2 ∧ x3' = nI i' ∧ i' < cN (hp'.1 25 19) ∧ s = hp'.1 40 i' ∧ q'.1 < 2 ∧ ((isSt s ∧ ¬ z7' = 0) ∨ (¬ isSt s ∧ z7' = 0)) ∧ okQ (hp'.1 40) (cN (hp'.1 25 19)) i' q' ∧ hp' = hp' := fun z7 o5 o6 h1 h2 => ⟨i, q, _, _, _, _, _, _, _, rfl, e1, e2, e3, hlt, hs, h1, by rw [hs]; exact h2, hQ, rfl⟩
          refine ⟨inx e3 (by omega) (by omega), ⟨trivial, fun r28 => ⟨fun c38 => ⟨fun c133 => ?_, fun c133 => ⟨fun c138 => ⟨fun c155 => ?_, fun c155 => ⟨fun c160 => ?_, fun c160 => ⟨fun c169 => ?_, fun c169 => ?_⟩⟩⟩, fun c138 => ?_⟩⟩, fun c38 => ⟨fun c45 => ?_, fun c45 => ⟨fun c52 => ?_, fun c52 => ⟨fun c59 => ?_, fun c59 => ⟨fun c66 => ?_, fun c66 => ?_⟩⟩⟩⟩⟩, fun e28 x28 => no0 x28⟩⟩
          all_goals try (have c38 : 2 ≤ x1 := c38)
          all_goals try (have c38 : ¬ 2 ≤ x1 := c38)
          all_goals rw [e1] at c38
          all_goals try (have c38 : 2 ≤ q.1 := (nI_leI (a := 2) (by omega) (by omega)).mp c38)
          all_goals try (have c38 : ¬ 2 ≤ q.1 := fun r => c38 ((nI_leI (a := 2) (by omega) (by omega)).mpr r))
          all_goals try (have c133 : q.1 = 2 := (i2 2 (by omega)).mp c133)
          all_goals try (have c133 : ¬ q.1 = 2 := fun r => c133 ((i2 2 (by omega)).mpr r))
          all_goals try (have c138 : q.1 = 5 := (i2 5 (by omega)).mp c138)
          all_goals try (have c138 : ¬ q.1 = 5 := fun r => c138 ((i2 5 (by omega)).mpr r))
          all_goals try (have c155 : fWi (hp'.1 40 x3.toNatClampNeg) 48 57 = 0 := c155)
          all_goals try (have c155 : ¬ fWi (hp'.1 40 x3.toNatClampNeg) 48 57 = 0 := c155)
          all_goals try rw [hd] at c155
          all_goals try (have c160 : q.1 = 4 := (i2 4 (by omega)).mp c160)
          all_goals try (have c160 : ¬ q.1 = 4 := fun r => c160 ((i2 4 (by omega)).mpr r))
          · -- a number begins in a condition
            refine ⟨rfl, to222 (x1 + 1) 1 (fWi (hp'.1 40 x3.toNatClampNeg) 48 57) _ _ ?_, f5 2 (by omega)⟩
            rw [hd]
            by_cases d : fDig (hp'.1 40 i) = 0
            · exact Or.inl ⟨d, by unfold auS; rw [if_neg (by omega), if_pos (Or.inl c133), if_pos d]⟩
            · exact Or.inr ⟨d, (q.1 + 1, 1), by unfold auS; rw [if_neg (by omega), if_pos (Or.inl c133), if_neg d], by rw [e1, nI_1], rfl, by show q.1 + 1 ≤ 6; omega, by show 1 ≤ 7; omega⟩
          · exact ⟨rfl, to182 _ _ _ (by omega) (by omega) (fun r => r.1 c155), f5 3 (by omega)⟩
          · exact ⟨rfl, to182 _ _ _ (by omega) (by omega) (fun r => r.2 c160), f5 3 (by omega)⟩
          · have c169 : 8 ≤ x2 + 1 := c169
            rw [e2, nI_1] at c169
            have c169 := (nI_leI (a := 8) (by omega) (by omega)).mp c169
            refine ⟨rfl, to222 x1 (x2 + 1) 0 _ _ (Or.inl ⟨rfl, ?_⟩), f5 2 (by omega)⟩
            unfold auS
            rw [if_neg (by omega), if_neg (by omega), if_pos ⟨c155, c160⟩, if_neg (by omega)]
          · have c169 : ¬ 8 ≤ x2 + 1 := c169
            rw [e2, nI_1] at c169
            have c169 : ¬ 8 ≤ q.2 + 1 := fun r => c169 ((nI_leI (a := 8) (by omega) (by omega)).mpr r)
            refine ⟨rfl, to222 x1 (x2 + 1) 1 _ _ (Or.inr ⟨by decide, (q.1, q.2 + 1), ?_, e1, by rw [e2, nI_1], q6, by show q.2 + 1 ≤ 7; omega⟩), f5 2 (by omega)⟩
            unfold auS
            rw [if_neg (by omega), if_neg (by omega), if_pos ⟨c155, c160⟩, if_pos (by omega)]
          · refine ⟨rfl, to222 (x1 + 1) 1 (fWi (hp'.1 40 x3.toNatClampNeg) 48 57) _ _ ?_, f5 2 (by omega)⟩
            rw [hd]
            by_cases d : fDig (hp'.1 40 i) = 0
            · exact Or.inl ⟨d, by unfold auS; rw [if_neg (by omega), if_pos (Or.inr c138), if_pos d]⟩
            · exact Or.inr ⟨d, (q.1 + 1, 1), by unfold auS; rw [if_neg (by omega), if_pos (Or.inr c138), if_neg d], by rw [e1, nI_1], rfl, by show q.1 + 1 ≤ 6; omega, by show 1 ≤ 7; omega⟩
          · have c45 : hp'.1 40 x3.toNatClampNeg = 111 := c45
            rw [hs] at c45
            exact ⟨rfl, to76 1 _ _ (by omega) (Or.inl ⟨Or.inl c45, by decide⟩), f5 4 (by omega)⟩
          · have c52 : hp'.1 40 x3.toNatClampNeg = 114 := c52
            rw [hs] at c52
            exact ⟨rfl, to76 1 _ _ (by omega) (Or.inl ⟨Or.inr (Or.inl c52), by decide⟩), f5 4 (by omega)⟩
          · have c59 : hp'.1 40 x3.toNatClampNeg = 60 := c59
            rw [hs] at c59
            exact ⟨rfl, to76 1 _ _ (by omega) (Or.inl ⟨Or.inr (Or.inr (Or.inl c59)), by decide⟩), f5 4 (by omega)⟩
          · have c45 : ¬ hp'.1 40 x3.toNatClampNeg = 111 := c45
            have c52 : ¬ hp'.1 40 x3.toNatClampNeg = 114 := c52
            have c59 : ¬ hp'.1 40 x3.toNatClampNeg = 60 := c59
            have c66 : ¬ hp'.1 40 x3.toNatClampNeg = 62 := c66
            rw [hs] at c45 c52 c59 c66
            exact ⟨rfl, to76 0 _ _ (by omega) (Or.inr ⟨fun r => r.elim c45 (fun r => r.elim c52 (fun r => r.elim c59 c66)), rfl⟩), f5 4 (by omega)⟩
          · have c66 : hp'.1 40 x3.toNatClampNeg = 62 := c66
            rw [hs] at c66
            exact ⟨rfl, to76 1 _ _ (by omega) (Or.inl ⟨Or.inr (Or.inr (Or.inr c66)), by decide⟩), f5 4 (by omega)⟩
      rcases atc hq with ⟨rfl, rfl⟩ | hq
      · obtain ⟨i, q, x1, x2, x3, s, z7, o5, o6, rfl, e1, e2, e3, hlt, es, h2, hz, hQ, rfl⟩ := hL
        have q6 := hQ.2.1
        have q7 := hQ.2.2
        have f4 : (100 - x3.toNatClampNeg) * 10 + 2 < (100 - x3.toNatClampNeg) * 10 + 4 := ft_m (by omega)
        have to222 : ∀ (y1 z6 : Int32) (o5 o7 : Option Value), ftV q s y1 x2 z6 → ∃ (i' : Nat) (q' : Nat × Nat) (y1' y2' x3' s' z6' : Int32) (o5' o7' : Option Value), [some (Value.ref 25), some (.int y1), some (.int x2), some (.int x3), some (.int s), o5, some (.int z6), o7] = [some (Value.ref 25), some (.int y1'), some (.int y2'), some (.int x3'), some (.int s'), o5', some (.int z6'), o7'] ∧ x3' = nI i' ∧ i' < cN (hp'.1 25 19) ∧ s' = hp'.1 40 i' ∧ ftV q' s' y1' y2' z6' ∧ okQ (hp'.1 40) (cN (hp'.1 25 19)) i' q' ∧ hp' = hp' := fun y1 z6 o5 o7 hv => ⟨i, q, _, _, _, _, _, _, _, rfl, e3, hlt, es, hv, hQ, rfl⟩
        rcases hz with ⟨h7, hz⟩ | ⟨h7, hz⟩
        · refine ⟨fun c78 => ⟨fun c108 => absurd c108 hz, fun c108 => ⟨rfl, to222 2 1 _ _ (Or.inr ⟨by decide, (2, q.2), by unfold auS; rw [if_pos h2, if_pos h7], rfl, e2, by show 2 ≤ 6; omega, q7⟩), f4⟩⟩, fun c78 => absurd c78 hz⟩
        · refine ⟨fun c78 => absurd hz c78, fun c78 => ⟨fun c85 => ⟨fun c108 => ⟨fun c119 => absurd c85 c119, fun c119 => ?_⟩, fun c108 => absurd hz c108⟩, fun c85 => ⟨fun c92 => ⟨fun c108 => ⟨fun c119 => ?_, fun c119 => absurd c119 c85⟩, fun c108 => absurd hz c108⟩, fun c92 => ⟨fun c96 => ⟨fun c108 => ⟨fun c119 => ?_, fun c119 => absurd c119 c85⟩, fun c108 => absurd hz c108⟩, fun c96 => ⟨fun c108 => ⟨fun c119 => ?_, fun c119 => absurd c119 c85⟩, fun c108 => absurd hz c108⟩⟩⟩⟩⟩
          all_goals try (have c85 : s = 120 := c85)
          all_goals try (have c85 : ¬ s = 120 := c85)
          all_goals try (have c92 : s = 58 := c92)
          all_goals try (have c92 : ¬ s = 58 := c92)
          all_goals try (have c96 : x1 = 0 := c96)
          all_goals try (have c96 : ¬ x1 = 0 := c96)
          · exact ⟨rfl, to222 4 1 _ _ (Or.inr ⟨by decide, (4, q.2), by unfold auS; rw [if_pos h2, if_neg h7, if_pos c85], rfl, e2, by show 4 ≤ 6; omega, q7⟩), f4⟩
          · exact ⟨rfl, to222 5 0 _ _ (Or.inl ⟨rfl, by unfold auS; rw [if_pos h2, if_neg h7, if_neg c85, if_neg (fun r => c92 r.1)]⟩), f4⟩
          · have n0 : ¬ q.1 = 0 := fun r => c96 (by rw [e1, r]; rfl)
            exact ⟨rfl, to222 5 0 _ _ (Or.inl ⟨rfl, by unfold auS; rw [if_pos h2, if_neg h7, if_neg c85, if_neg (fun r => n0 r.2)]⟩), f4⟩
          · have n0 : q.1 = 0 := by rw [e1] at c96; exact (nI_eq (b := 0) (by omega) (by omega)).mp c96
            exact ⟨rfl, to222 5 1 _ _ (Or.inr ⟨by decide, (5, q.2), by unfold auS; rw [if_pos h2, if_neg h7, if_neg c85, if_pos ⟨c92, n0⟩], rfl, e2, by show 5 ≤ 6; omega, q7⟩), f4⟩
      rcases atc hq with ⟨rfl, rfl⟩ | hq
      · obtain ⟨i, q, x1, x2, x3, s, o5, o6, o7, rfl, e1, e2, e3, hlt, es, h2, h25, hdg, hQ, rfl⟩ := hL
        have q6 := hQ.2.1
        have q7 := hQ.2.2
        have f4 : (100 - x3.toNatClampNeg) * 10 + 2 < (100 - x3.toNatClampNeg) * 10 + 3 := ft_m (by omega)
        have to222 : ∀ (y1 z6 : Int32) (o5 o7 : Option Value), ftV q s y1 x2 z6 → ∃ (i' : Nat) (q' : Nat × Nat) (y1' y2' x3' s' z6' : Int32) (o5' o7' : Option Value), [some (Value.ref 25), some (.int y1), some (.int x2), some (.int x3), some (.int s), o5, some (.int z6), o7] = [some (Value.ref 25), some (.int y1'), some (.int y2'), some (.int x3'), some (.int s'), o5', some (.int z6'), o7'] ∧ x3' = nI i' ∧ i' < cN (hp'.1 25 19) ∧ s' = hp'.1 40 i' ∧ ftV q' s' y1' y2' z6' ∧ okQ (hp'.1 40) (cN (hp'.1 25 19)) i' q' ∧ hp' = hp' := fun y1 z6 o5 o7 hv => ⟨i, q, _, _, _, _, _, _, _, rfl, e3, hlt, es, hv, hQ, rfl⟩
        have auE : auS q s = if q.1 < 6 ∧ (s = 44 ∨ s = 58) then some (if s = 44 then 1 else 5, q.2) else none := by
          unfold auS
          rw [if_neg h2, if_neg h25, if_neg hdg]
        refine ⟨fun c185 => ⟨fun c213 => ?_, fun c213 => ?_⟩, fun c185 => ⟨fun c192 => ⟨fun c213 => absurd c192 c213, fun c213 => ?_⟩, fun c192 => ⟨fun c199 => ⟨fun c213 => ?_, fun c213 => absurd c213 c192⟩, fun c199 => ⟨fun c213 => ?_, fun c213 => absurd c213 c192⟩⟩⟩⟩
        all_goals try (have c185 : 6 ≤ x1 := c185)
        all_goals try (have c185 : ¬ 6 ≤ x1 := c185)
        all_goals rw [e1] at c185
        all_goals try (have c185 : 6 ≤ q.1 := (nI_leI (a := 6) (by omega) (by omega)).mp c185)
        all_goals try (have c185 : ¬ 6 ≤ q.1 := fun r => c185 ((nI_leI (a := 6) (by omega) (by omega)).mpr r))
        all_goals try (have c192 : s = 44 := c192)
        all_goals try (have c192 : ¬ s = 44 := c192)
        all_goals try (have c199 : s = 58 := c199)
        all_goals try (have c199 : ¬ s = 58 := c199)
        · exact ⟨rfl, to222 5 0 _ _ (Or.inl ⟨rfl, by rw [auE, if_neg (fun r => by omega)]⟩), f4⟩
        · exact ⟨rfl, to222 1 0 _ _ (Or.inl ⟨rfl, by rw [auE, if_neg (fun r => by omega)]⟩), f4⟩
        · exact ⟨rfl, to222 1 1 _ _ (Or.inr ⟨by decide, (1, q.2), by rw [auE, if_pos ⟨by omega, Or.inl c192⟩, if_pos c192], rfl, e2, by show 1 ≤ 6; omega, q7⟩), f4⟩
        · exact ⟨rfl, to222 5 0 _ _ (Or.inl ⟨rfl, by rw [auE, if_neg (fun r => r.2.elim c192 c199)]⟩), f4⟩
        · exact ⟨rfl, to222 5 1 _ _ (Or.inr ⟨by decide, (5, q.2), by rw [auE, if_pos ⟨by omega, Or.inr c199⟩, if_neg c192], rfl, e2, by show 5 ≤ 6; omega, q7⟩), f4⟩
      obtain ⟨rfl, rfl⟩ := at1 hq
      obtain ⟨i, q, y1, y2, x3, s, z6, o5, o7, rfl, e3, hlt, es, hv, hQ, rfl⟩ := hL
      have hx3 := nx e3 (by omega)
      refine ⟨fun c224 => ?_, fun c224 => ⟨rfl, ?_, rfl⟩⟩
      · have c224 : ¬ z6 = 0 := c224
        rcases hv with ⟨hv, _⟩ | ⟨_, q', hv, e1, e2, l1, l2⟩
        · exact absurd hv c224
        · refine ⟨rfl, ⟨i + 1, q', _, _, _, _, _, _, _, rfl, e1, e2, inc1 e3, by omega, ⟨?_, l1, l2⟩, rfl⟩, ?_⟩
          · rw [hQ.1]
            exact auF_s hlt (by rw [← es]; exact hv)
          · show (100 - (x3 + 1).toNatClampNeg) * 10 + 5 < (100 - x3.toNatClampNeg) * 10 + 2
            rw [inc1 e3, hx3, nIc (by omega)]
            exact ft_i (by omega)
      · have c224 : z6 = 0 := c224
        rcases hv with ⟨_, hv⟩ | ⟨hv, _⟩
        · show some x3 = some (rv hp')
          rw [er, hQ.1, auF_n hlt (by rw [← es]; exact hv), e3]
        · exact absurd c224 hv)
def fFa (hp : mm_Hp) : Int32 := auF (hp.1 40) (cN (hp.1 25 19)) 0 (0, 0)
def sM_fault : mm_Ct := ct0 25 1 (fun hp => ∃ t, t ≤ 40 ∧ hp.1 25 19 = nI t) (fun _ => 0) fFa (fun hp => hp)
theorem M_M_fault {E : En} (hE : EOk E) : Mt E yM_fault cM_fault 8 (some .int) 2 sM_fault :=
  M_M_fault_g hE fFa (fun hp t ht et => by unfold fFa; rw [et, cN_nI (by omega)])
