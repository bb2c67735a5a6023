/-! ===== DieGraphs$Precedence.tellsRing ===== -/
theorem rt_z0 {j : Nat} {P : mm_Hp → Prop} {tx : mm_Hp → Nat} {rv : mm_Hp → Int32} {sg : mm_Hp → mm_Hp} (hb : ∀ hp, P hp → isB (rv hp)) : ((ct0 j 1 P tx rv sg).2.1 = 0 ∧ (some FieldType.boolean) = none) ∨ ((ct0 j 1 P tx rv sg).2.1 = 1 ∧ ∃ ty, some FieldType.boolean = some ty ∧ ∀ as hp, (ct0 j 1 P tx rv sg).2.2.2.1 as hp → narrow ty (.int ((ct0 j 1 P tx rv sg).2.2.2.2.2.1 as hp)) = .int ((ct0 j 1 P tx rv sg).2.2.2.2.2.1 as hp)) :=
  rt_z rfl (fun as hp h => hb hp (ct0_s h).2)
theorem rt_z2 {j : Nat} {P : Int32 → Int32 → mm_Hp → Prop} {tx : Int32 → Int32 → mm_Hp → Nat} {rv : Int32 → Int32 → mm_Hp → Int32} {sg : Int32 → Int32 → mm_Hp → mm_Hp} (hb : ∀ a b hp, P a b hp → isB (rv a b hp)) : ((ct2 j 1 P tx rv sg).2.1 = 0 ∧ (some FieldType.boolean) = none) ∨ ((ct2 j 1 P tx rv sg).2.1 = 1 ∧ ∃ ty, some FieldType.boolean = some ty ∧ ∀ as hp, (ct2 j 1 P tx rv sg).2.2.2.1 as hp → narrow ty (.int ((ct2 j 1 P tx rv sg).2.2.2.2.2.1 as hp)) = .int ((ct2 j 1 P tx rv sg).2.2.2.2.2.1 as hp)) :=
  rt_z rfl (fun as hp h => by obtain ⟨a, b, rfl, hP⟩ := ct2_s h; exact hb a b hp hP)
theorem rt_z3 {j : Nat} {P : Int32 → Int32 → Int32 → mm_Hp → Prop} {tx : Int32 → Int32 → Int32 → mm_Hp → Nat} {rv : Int32 → Int32 → Int32 → mm_Hp → Int32} {sg : Int32 → Int32 → Int32 → mm_Hp → mm_Hp} (hb : ∀ a b c hp, P a b c hp → isB (rv a b c hp)) : ((ct3 j 1 P tx rv sg).2.1 = 0 ∧ (some FieldType.boolean) = none) ∨ ((ct3 j 1 P tx rv sg).2.1 = 1 ∧ ∃ ty, some FieldType.boolean = some ty ∧ ∀ as hp, (ct3 j 1 P tx rv sg).2.2.2.1 as hp → narrow ty (.int ((ct3 j 1 P tx rv sg).2.2.2.2.2.1 as hp)) = .int ((ct3 j 1 P tx rv sg).2.2.2.2.2.1 as hp)) :=
  rt_z rfl (fun as hp h => by obtain ⟨a, b, c, rfl, hP⟩ := ct3_s h; exact hb a b c hp hP)
theorem nle_lt {x y : Int32} (h : ¬ y ≤ x) : x < y := by
  rw [Int32.lt_iff_toInt_lt]
  rw [Int32.le_iff_toInt_le] at h
  omega
def bTR (hp : mm_Hp) (k : Nat) (q : Int32 × Int32 × (Nat → Int32)) : Int32 × Int32 × (Nat → Int32) := if (fSh (nI k) (sR hp 18 q.2.2)).1 < q.2.1 then (nI k, (fSh (nI k) (sR hp 18 q.2.2)).1, (fSh (nI k) (sR hp 18 q.2.2)).2) else (q.1, q.2.1, (fSh (nI k) (sR hp 18 q.2.2)).2)
def fTR (hp : mm_Hp) : Int32 × Int32 × (Nat → Int32) := lp (bTR hp) 32 (-1, 33, hp.1 18)
def rTR (hp : mm_Hp) : Int32 := if (fTR (fOrder hp)).1 = -1 then 0 else 1
theorem rTR_B (hp : mm_Hp) : isB (rTR hp) := by
  unfold rTR
  exact isB_if
def hTR (hp : mm_Hp) : mm_Hp := if (fTR (fOrder hp)).1 = -1 then sR (fOrder hp) 18 (fTR (fOrder hp)).2.2 else fTellH (fTR (fOrder hp)).1 (sR (fOrder hp) 18 (fTR (fOrder hp)).2.2)
def sP_tellsRing : mm_Ct := ct0 3 1 prOk (fun _ => 0) rTR hTR
set_option maxRecDepth 100000 in
theorem M_P_tellsRing_g {E : En} (hE : EOk E) (rv : mm_Hp → Int32) (sg : mm_Hp → mm_Hp) (h0 : ∀ hp, (fTR (fOrder hp)).1 = -1 → rv hp = 0 ∧ sg hp = sR (fOrder hp) 18 (fTR (fOrder hp)).2.2) (h1 : ∀ hp, ¬ (fTR (fOrder hp)).1 = -1 → rv hp = 1 ∧ sg hp = fTellH (fTR (fOrder hp)).1 (sR (fOrder hp) 18 (fTR (fOrder hp)).2.2)) (hrB : ∀ hp, isB (rv hp)) : Mt E yP_tellsRing cP_tellsRing 5 (some .boolean) 5 (ct0 3 1 prOk (fun _ => 0) rv sg) :=
  met (n := 60) (tab := tP_tellsRing) (cals := [(122, sP_build), (128, sP_shortestRingWith), (136, sP_tellRingFrom)]) hE flP_ok pfP_ok csP_ok rfl (by decide) kP_tellsRing rfl (cf_v 61 (lP_61 (M_P_build hE) (by decide) ct0_t rfl) (cf_v 64 (lP_64 (M_P_shortestRingWith hE) (by decide) ct1_t rfl) (cf_v 68 (lP_68 (M_P_tellRingFrom hE) (by decide) ct1_t rfl) cf_nil))) (rt_z0 (fun hp _ => hrB hp)) ct0_c (Nat.le_of_ble_eq_true rfl) rfl
    (fun as hp pc => cond (Nat.beq pc 11) (some (fun L hp' => ∃ (q : Int32 × Int32 × (Nat → Int32)) (i : Nat) (x : Int32) (o : Option Value), L = [some (.ref 3), some (.int q.1), some (.int q.2.1), some (.int x), o] ∧ x = nI i ∧ i ≤ 32 ∧ hp' = sR (fOrder hp) 18 q.2.2 ∧ q = lp (bTR (fOrder hp)) i (-1, 33, (fOrder hp).1 18) ∧ (q.1 = -1 ∨ ∃ k, k < 32 ∧ q.1 = nI k))) none) (fun _ L _ => msk 100 3 L)
    (fun as hp hl h => by
      obtain ⟨rfl, hP⟩ := ct0_s h
      refine ⟨⟨rfl, hP⟩, fun r1 => ⟨rfl, (-1, 33, (fOrder hp).1 18), 0, _, none, rfl, rfl, by omega, (sR_self (fOrder hp) 18).symm, rfl, Or.inl rfl⟩, fun e1 x1 => no0 x1⟩)
    (fun as hp hl h pc P hq L hp' hL _ => by
      obtain ⟨rfl, hP⟩ := ct0_s h
      obtain ⟨rfl, rfl⟩ := at1 hq
      obtain ⟨q, i, x, o, rfl, ex, hi, rfl, eq, hk⟩ := hL
      refine ⟨fun c14 => ?_, fun c14 => ?_⟩
      · have := cge ex (n := 32) rfl (by omega) (by omega) c14
        have hi2 : i = 32 := by omega
        subst hi2
        have hq9 : fTR (fOrder hp) = q := eq.symm
        refine ⟨fun c43 => ⟨⟨rfl, ?_⟩, fun r50 => ⟨rfl, ?_, ?_⟩, fun e50 x50 => no0 x50⟩, fun c43 => ⟨rfl, ?_, ?_⟩⟩
        · have c43 : ¬ q.1 = -1 := c43
          obtain ⟨k, hk1, ek⟩ := hk.resolve_left c43
          exact inx ek hk1 (by omega)
        · have c43 : ¬ q.1 = -1 := c43
          have h9 := (h1 hp (by rw [hq9]; exact c43)).1
          show some 1 = some (rv hp)
          rw [h9]
        · have c43 : ¬ q.1 = -1 := c43
          have h9 := (h1 hp (by rw [hq9]; exact c43)).2
          rw [hq9] at h9
          exact h9.symm
        · have c43 : q.1 = -1 := c43
          have h9 := (h0 hp (by rw [hq9]; exact c43)).1
          show some 0 = some (rv hp)
          rw [h9]
        · have c43 : q.1 = -1 := c43
          have h9 := (h0 hp (by rw [hq9]; exact c43)).2
          rw [hq9] at h9
          exact h9.symm
      · have hlt := clt ex (n := 32) rfl (by omega) (by omega) c14
        have hstep : lp (bTR (fOrder hp)) (i + 1) (-1, 33, (fOrder hp).1 18) = bTR (fOrder hp) i q := by rw [eq]; rfl
        refine ⟨⟨rfl, inx ex hlt (by omega)⟩, fun r19 => ⟨fun c27 => ⟨rfl, ⟨bTR (fOrder hp) i q, i + 1, x + 1, some (.int (fSh x (sR (fOrder hp) 18 q.2.2)).1), ?_, inc1 ex, by omega, ?_, hstep.symm, ?_⟩, dec1 ex (by omega) (by omega)⟩, fun c27 => ⟨rfl, ⟨bTR (fOrder hp) i q, i + 1, x + 1, some (.int (fSh x (sR (fOrder hp) 18 q.2.2)).1), ?_, inc1 ex, by omega, ?_, hstep.symm, ?_⟩, dec1 ex (by omega) (by omega)⟩⟩, fun e19 x19 => no0 x19⟩
        · have c27 : q.2.1 ≤ (fSh x (sR (fOrder hp) 18 q.2.2)).1 := c27
          have hn : ¬ (fSh (nI i) (sR (fOrder hp) 18 q.2.2)).1 < q.2.1 := by rw [← ex]; exact fun z => lt_nge z c27
          have hb : bTR (fOrder hp) i q = (q.1, q.2.1, (fSh (nI i) (sR (fOrder hp) 18 q.2.2)).2) := if_neg hn
          rw [hb]
          rfl
        · have c27 : q.2.1 ≤ (fSh x (sR (fOrder hp) 18 q.2.2)).1 := c27
          have hn : ¬ (fSh (nI i) (sR (fOrder hp) 18 q.2.2)).1 < q.2.1 := by rw [← ex]; exact fun z => lt_nge z c27
          have hb : bTR (fOrder hp) i q = (q.1, q.2.1, (fSh (nI i) (sR (fOrder hp) 18 q.2.2)).2) := if_neg hn
          rw [hb]
          show sR (sR (fOrder hp) 18 q.2.2) 18 (fSh x (sR (fOrder hp) 18 q.2.2)).2 = _
          rw [sR_sR, ex]
        · have c27 : q.2.1 ≤ (fSh x (sR (fOrder hp) 18 q.2.2)).1 := c27
          have hn : ¬ (fSh (nI i) (sR (fOrder hp) 18 q.2.2)).1 < q.2.1 := by rw [← ex]; exact fun z => lt_nge z c27
          have hb : bTR (fOrder hp) i q = (q.1, q.2.1, (fSh (nI i) (sR (fOrder hp) 18 q.2.2)).2) := if_neg hn
          rw [hb]
          exact hk
        · have c27 : ¬ q.2.1 ≤ (fSh x (sR (fOrder hp) 18 q.2.2)).1 := c27
          have hn : (fSh (nI i) (sR (fOrder hp) 18 q.2.2)).1 < q.2.1 := by rw [← ex]; exact nle_lt c27
          have hb : bTR (fOrder hp) i q = (nI i, (fSh (nI i) (sR (fOrder hp) 18 q.2.2)).1, (fSh (nI i) (sR (fOrder hp) 18 q.2.2)).2) := if_pos hn
          rw [hb, ← ex]
          rfl
        · have c27 : ¬ q.2.1 ≤ (fSh x (sR (fOrder hp) 18 q.2.2)).1 := c27
          have hn : (fSh (nI i) (sR (fOrder hp) 18 q.2.2)).1 < q.2.1 := by rw [← ex]; exact nle_lt c27
          have hb : bTR (fOrder hp) i q = (nI i, (fSh (nI i) (sR (fOrder hp) 18 q.2.2)).1, (fSh (nI i) (sR (fOrder hp) 18 q.2.2)).2) := if_pos hn
          rw [hb]
          show sR (sR (fOrder hp) 18 q.2.2) 18 (fSh x (sR (fOrder hp) 18 q.2.2)).2 = _
          rw [sR_sR, ex]
        · have c27 : ¬ q.2.1 ≤ (fSh x (sR (fOrder hp) 18 q.2.2)).1 := c27
          have hn : (fSh (nI i) (sR (fOrder hp) 18 q.2.2)).1 < q.2.1 := by rw [← ex]; exact nle_lt c27
          have hb : bTR (fOrder hp) i q = (nI i, (fSh (nI i) (sR (fOrder hp) 18 q.2.2)).1, (fSh (nI i) (sR (fOrder hp) 18 q.2.2)).2) := if_pos hn
          rw [hb]
          exact Or.inr ⟨i, hlt, rfl⟩)
theorem M_P_tellsRing {E : En} (hE : EOk E) : Mt E yP_tellsRing cP_tellsRing 5 (some .boolean) 5 sP_tellsRing :=
  M_P_tellsRing_g hE rTR hTR (fun hp h => ⟨if_pos h, if_pos h⟩) (fun hp h => ⟨if_neg h, if_neg h⟩) rTR_B
