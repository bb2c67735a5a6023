/-! what class (rows of hc below 25) and reference (rows of hm from 25 on) share -/
def Rel1 (hc hm : mm_Hp) : Prop := (∃ n, n ≤ 80 ∧ hc.1 1 7 = nI n ∧ hm.1 25 1 = nI n ∧ ∀ k, k < n → (∃ f, f < 16 ∧ hc.1 5 k = nI f ∧ hm.1 26 k = nI f) ∧ (∃ b, 16 ≤ b ∧ b < 32 ∧ hc.1 6 k = nI b ∧ hm.1 27 k = nI b) ∧ (∃ w, 1 ≤ w ∧ w ≤ 1000000 ∧ hc.1 7 k = nI w ∧ hm.1 28 k = nI w) ∧ stOk (hc.1 8 k) ∧ stOk (hc.1 9 k) ∧ hm.1 30 (2 * k) = hc.1 8 k ∧ hm.1 30 (2 * k + 1) = hc.1 9 k) ∧ ∀ k, k < 80 → isB (hc.1 11 k) ∧ hm.1 29 k = hc.1 11 k
def Rel2 (hc hm : mm_Hp) : Prop := ∃ m, m ≤ 60 ∧ hc.1 3 3 = nI m ∧ hm.1 25 7 = nI m ∧ ∀ k, k < m → (∃ b, b < 32 ∧ hc.1 13 k = nI b ∧ hm.1 31 k = nI b) ∧ (∃ a, a < 32 ∧ hc.1 14 k = nI a ∧ hm.1 32 k = nI a)
def Rel3 (hc hm : mm_Hp) : Prop := ∃ t, t ≤ 32 ∧ hc.1 3 9 = nI t ∧ hm.1 25 13 = nI t ∧ ∀ k, k < t → hm.1 36 k = hc.1 19 k
theorem Rel1.n {hc hm : mm_Hp} (h : Rel1 hc hm) : szN hc ≤ 80 ∧ mszN hm = szN hc ∧ hc.1 1 7 = nI (szN hc) ∧ hm.1 25 1 = nI (szN hc) := by
  obtain ⟨⟨n, hn, e1, e2, _⟩, _⟩ := h
  unfold szN mszN
  rw [e1, e2, nIc (by omega)]
  exact ⟨hn, rfl, rfl, rfl⟩
theorem Rel1.k {hc hm : mm_Hp} (h : Rel1 hc hm) {k : Nat} (hk : k < szN hc) : (∃ f, f < 16 ∧ hc.1 5 k = nI f ∧ hm.1 26 k = nI f) ∧ (∃ b, 16 ≤ b ∧ b < 32 ∧ hc.1 6 k = nI b ∧ hm.1 27 k = nI b) ∧ (∃ w, 1 ≤ w ∧ w ≤ 1000000 ∧ hc.1 7 k = nI w ∧ hm.1 28 k = nI w) ∧ stOk (hc.1 8 k) ∧ stOk (hc.1 9 k) ∧ hm.1 30 (2 * k) = hc.1 8 k ∧ hm.1 30 (2 * k + 1) = hc.1 9 k := by
  obtain ⟨⟨n, hn, e1, e2, h1⟩, _⟩ := h
  unfold szN at hk
  rw [e1, nIc (by omega)] at hk
  exact h1 k hk
theorem Rel1.front {hc hm : mm_Hp} (h : Rel1 hc hm) {k : Nat} (hk : k < szN hc) : hm.1 26 k = hc.1 5 k := by
  obtain ⟨⟨f, _, e1, e2⟩, _⟩ := h.k hk
  rw [e1, e2]
theorem Rel1.back {hc hm : mm_Hp} (h : Rel1 hc hm) {k : Nat} (hk : k < szN hc) : hm.1 27 k = hc.1 6 k := by
  obtain ⟨_, ⟨f, _, _, e1, e2⟩, _⟩ := h.k hk
  rw [e1, e2]
theorem Rel1.gram {hc hm : mm_Hp} (h : Rel1 hc hm) {k : Nat} (hk : k < szN hc) : hm.1 28 k = hc.1 7 k := by
  obtain ⟨_, _, ⟨f, _, _, e1, e2⟩, _⟩ := h.k hk
  rw [e1, e2]
theorem Rel1.dbt {hc hm : mm_Hp} (h : Rel1 hc hm) {k : Nat} (hk : k < szN hc) : hm.1 29 k = hc.1 11 k := (h.2 k (by have := h.n.1; omega)).2
theorem Rel1.isB {hc hm : mm_Hp} (h : Rel1 hc hm) {k : Nat} (hk : k < szN hc) : isB (hc.1 11 k) := (h.2 k (by have := h.n.1; omega)).1
theorem Rel1.cn {hc hm : mm_Hp} (h : Rel1 hc hm) : cnOk hc := by
  have n := h.n
  refine ⟨⟨szN hc, n.1, n.2.2.1⟩, fun k hk => ?_⟩
  obtain ⟨⟨f, h1, e1, _⟩, ⟨b, h2, h3, e2, _⟩, _⟩ := h.k hk
  exact ⟨h.isB hk, ⟨f, h1, e1⟩, b, h2, h3, e2⟩
theorem Rel1.pc {hc hm : mm_Hp} (h : Rel1 hc hm) : pcOk hc := ⟨h.cn, fun k hk => ⟨(h.k hk).2.2.2.1, (h.k hk).2.2.2.2.1⟩⟩
theorem Rel1.md {hc hm : mm_Hp} (h : Rel1 hc hm) : mdOk hm := by
  have n := h.n
  refine ⟨⟨szN hc, n.1, n.2.2.2⟩, fun k hk => ?_⟩
  rw [n.2.1] at hk
  obtain ⟨⟨f, h1, _, e1⟩, ⟨b, h2, h3, _, e2⟩, _⟩ := h.k hk
  exact ⟨by rw [h.dbt hk]; exact h.isB hk, ⟨f, h1, e1⟩, b, h2, h3, e2⟩
theorem Rel2.n {hc hm : mm_Hp} (h : Rel2 hc hm) : rwN hc ≤ 60 ∧ mrwN hm = rwN hc ∧ hc.1 3 3 = nI (rwN hc) ∧ hm.1 25 7 = nI (rwN hc) := by
  obtain ⟨n, hn, e1, e2, _⟩ := h
  unfold rwN mrwN
  rw [e1, e2, nIc (by omega)]
  exact ⟨hn, rfl, rfl, rfl⟩
theorem Rel2.k {hc hm : mm_Hp} (h : Rel2 hc hm) {k : Nat} (hk : k < rwN hc) : (∃ b, b < 32 ∧ hc.1 13 k = nI b ∧ hm.1 31 k = nI b) ∧ (∃ a, a < 32 ∧ hc.1 14 k = nI a ∧ hm.1 32 k = nI a) := by
  obtain ⟨n, hn, e1, e2, h1⟩ := h
  unfold rwN at hk
  rw [e1, nIc (by omega)] at hk
  exact h1 k hk
theorem Rel2.rw {hc hm : mm_Hp} (h : Rel2 hc hm) : rwOk hc := by
  have n := h.n
  refine ⟨⟨_, n.1, n.2.2.1⟩, fun k hk => ?_⟩
  obtain ⟨⟨b, h1, e1, _⟩, a, h2, e2, _⟩ := h.k hk
  exact ⟨⟨b, h1, e1⟩, a, h2, e2⟩
theorem Rel2.mr {hc hm : mm_Hp} (h : Rel2 hc hm) : mrOk hm := by
  have n := h.n
  refine ⟨⟨_, n.1, n.2.2.2⟩, fun k hk => ?_⟩
  rw [n.2.1] at hk
  obtain ⟨⟨b, h1, _, e1⟩, a, h2, _, e2⟩ := h.k hk
  exact ⟨⟨b, h1, e1⟩, a, h2, e2⟩
theorem Rel1.die {hc hm : mm_Hp} (h : Rel1 hc hm) {k : Nat} (hk : k < szN hc) (s : Nat) : mdS hm s k = dieS hc s k := by
  unfold mdS dieS
  rw [h.front hk, h.back hk]
theorem Rel1.stg {hc hm : mm_Hp} (h : Rel1 hc hm) {k : Nat} (hk : k < szN hc) {s : Nat} (hs : s < 2) : mtS hm s k = stgS hc s k := by
  unfold mtS stgS
  obtain ⟨_, _, _, _, _, e1, e2⟩ := h.k hk
  rcases (by omega : s = 0 ∨ s = 1) with rfl | rfl
  · exact e1
  · exact e2
theorem ed_same {hc hm : mm_Hp} (h : Rel1 hc hm) (h2 : Rel2 hc hm) (i j : Nat) : EdC hc i j ↔ EdM hm i j := by
  have n := h.n
  have m := h2.n
  unfold EdC EdM
  rw [n.2.1, m.2.1]
  refine or_congr ?_ ?_
  · constructor
    · rintro ⟨k, hk, e1, e2⟩
      obtain ⟨⟨b, _, f1, f2⟩, a, _, f3, f4⟩ := h2.k hk
      exact ⟨k, hk, by rw [f2, ← f1]; exact e1, by rw [f4, ← f3]; exact e2⟩
    · rintro ⟨k, hk, e1, e2⟩
      obtain ⟨⟨b, _, f1, f2⟩, a, _, f3, f4⟩ := h2.k hk
      exact ⟨k, hk, by rw [f1, ← f2]; exact e1, by rw [f3, ← f4]; exact e2⟩
  · constructor
    · rintro ⟨s, hs, a, ha, b, hb, q⟩
      refine ⟨s, hs, a, ha, b, hb, ?_⟩
      rw [h.dbt ha, h.dbt hb, h.stg ha hs, h.stg hb hs, h.die ha, h.die hb, h.die ha, h.die hb]
      exact q
    · rintro ⟨s, hs, a, ha, b, hb, q⟩
      refine ⟨s, hs, a, ha, b, hb, ?_⟩
      rw [h.dbt ha, h.dbt hb, h.stg ha hs, h.stg hb hs, h.die ha, h.die hb, h.die ha, h.die hb] at q
      exact q
/-- the steps are one -/
theorem st_same {hc hm : mm_Hp} (h : Rel1 hc hm) (h2 : Rel2 hc hm) : ∀ i j, i < 32 → j < 32 → stM (fSt hm) i j = qS ((fOrder hc).1 16) i j := by
  intro i j hi hj
  rw [Bool.eq_iff_iff, steps_ed ⟨h.md, h2.mr⟩ hi hj, ← ed_same h h2]
  exact (next_bits ⟨h.pc, h2.rw⟩ hi j).symm
theorem clOk_sR (hp : mm_Hp) : clOk ((sR hp 17 (fClose hp)).1 16) ((sR hp 17 (fClose hp)).1 17) := by
  rw [sR_at, sR_ne (by omega)]
  exact fClose_ok hp
theorem fOrder_cl (hp : mm_Hp) : clOk ((fOrder hp).1 16) ((fOrder hp).1 17) := clOk_sR _
theorem ear_same {hc hm : mm_Hp} (h : Rel1 hc hm) (h2 : Rel2 hc hm) {i j : Nat} (hi : i < 32) (hj : j < 32) (g : Nat → Int32) : nz (fEa (fSt hm) g (32 * i + j)) = qb ((fOrder hc).1 17 i) j := by
  have e : nz (fEa (fSt hm) g (32 * i + j)) = stM (fEa (fSt hm) g) i j := by
    generalize fEa (fSt hm) g = k
    rfl
  rw [e, fEa_ok (fSt hm) g hi hj, fOrder_cl hc i j hi hj]
  exact wq_same (st_same h h2) (Nat.le_refl _) hi hj
/-! the first of the shortest -/
theorem bTR_ok {hp : mm_Hp} (hc : clOk (hp.1 16) (hp.1 17)) : ∀ n, n ≤ 32 → ((lp (bTR hp) n (-1, 33, hp.1 18)).1 = -1 ∧ (lp (bTR hp) n (-1, 33, hp.1 18)).2.1 = 33 ∧ qBf (rsz (qS (hp.1 16))) n = (99, 0)) ∨ ∃ b t, 1 ≤ b ∧ b ≤ 32 ∧ t < 32 ∧ (lp (bTR hp) n (-1, 33, hp.1 18)).1 = nI t ∧ (lp (bTR hp) n (-1, 33, hp.1 18)).2.1 = nI b ∧ qBf (rsz (qS (hp.1 16))) n = (b, t) ∧ isRl (qS (hp.1 16)) t b
  | 0, _ => Or.inl ⟨rfl, rfl, rfl⟩
  | n + 1, hn => by
    have ih := bTR_ok hc n (by omega)
    show ((bTR hp n (lp (bTR hp) n (-1, 33, hp.1 18))).1 = -1 ∧ (bTR hp n (lp (bTR hp) n (-1, 33, hp.1 18))).2.1 = 33 ∧ bBf (rsz (qS (hp.1 16))) n (qBf (rsz (qS (hp.1 16))) n) = (99, 0)) ∨ ∃ b t, 1 ≤ b ∧ b ≤ 32 ∧ t < 32 ∧ (bTR hp n (lp (bTR hp) n (-1, 33, hp.1 18))).1 = nI t ∧ (bTR hp n (lp (bTR hp) n (-1, 33, hp.1 18))).2.1 = nI b ∧ bBf (rsz (qS (hp.1 16))) n (qBf (rsz (qS (hp.1 16))) n) = (b, t) ∧ isRl (qS (hp.1 16)) t b
    generalize lp (bTR hp) n (-1, 33, hp.1 18) = q at ih
    have f := fSh_ok (hp := sR hp 18 q.2.2) (t := n) (by omega) hc
    have f : (∃ r, 1 ≤ r ∧ r ≤ 32 ∧ (fSh (nI n) (sR hp 18 q.2.2)).1 = nI r ∧ isRl (qS (hp.1 16)) n r ∧ twOk (hp.1 16) n (r + 1) (fSh (nI n) (sR hp 18 q.2.2)).2 ∧ rsz (qS (hp.1 16)) n = r) ∨ ((fSh (nI n) (sR hp 18 q.2.2)).1 = 33 ∧ (∀ k, wk (qS (hp.1 16)) (k + 1) n n = false) ∧ rsz (qS (hp.1 16)) n = 99) := f
    unfold bTR bBf
    rcases f with ⟨r, r1, r2, r3, r4, _, r5⟩ | ⟨r1, _, r2⟩
    · rw [r3, r5]
      rcases ih with ⟨i1, i2, i3⟩ | ⟨b, t, i1, i2, i3, i4, i5, i6, i7⟩
      · have h33 : nI r < 33 := (nI_ltI (b := 33) (by omega) (by omega)).mpr (by omega)
        rw [i2, i3, if_pos h33, if_pos (by show r < 99; omega)]
        exact Or.inr ⟨r, n, r1, r2, by omega, rfl, rfl, rfl, r4⟩
      · rw [i5, i6]
        by_cases e : r < b
        · rw [if_pos ((nI_ltI (by omega) (by omega)).mpr e), if_pos (by show r < b; omega)]
          exact Or.inr ⟨r, n, r1, r2, by omega, rfl, rfl, rfl, r4⟩
        · rw [if_neg (fun h => e ((nI_ltI (by omega) (by omega)).mp h)), if_neg (by show ¬ r < b; omega)]
          exact Or.inr ⟨b, t, i1, i2, i3, i4, rfl, rfl, i7⟩
    · rw [r1, r2]
      rcases ih with ⟨i1, i2, i3⟩ | ⟨b, t, i1, i2, i3, i4, i5, i6, i7⟩
      · rw [i2, i3, if_neg (by decide), if_neg (by show ¬ 99 < 99; omega)]
        exact Or.inl ⟨i1, rfl, rfl⟩
      · have h33 : ¬ (33 : Int32) < nI b := fun h => absurd ((nI_ltI (a := 33) (by omega) (by omega)).mp h) (by omega)
        rw [i5, i6, if_neg h33, if_neg (by show ¬ 99 < b; omega)]
        exact Or.inr ⟨b, t, i1, i2, i3, i4, rfl, rfl, i7⟩
theorem m1_ne {t : Nat} (h : t < 32) : ¬ nI t = -1 := by
  intro q
  have := congrArg Int32.toInt q
  rw [nI_toInt (by omega)] at this
  have e2 : Int32.toInt (-1) = -1 := by decide
  omega
theorem fTellH_9 (d : Int32) (hp : mm_Hp) : (fTellH d hp).1 3 9 = nI (fTellR d hp).1 := by
  unfold fTellH
  rw [sR_ne (by omega), sR_at, pk_us]
theorem fTellH_19 (d : Int32) (hp : mm_Hp) : (fTellH d hp).1 19 = (fTellR d hp).2 := by
  unfold fTellH
  rw [sR_at]
theorem hTl3_13 (hp : mm_Hp) (b t k : Nat) : (hTl3 hp b t k).1 25 13 = nI b := by
  unfold hTl3
  rw [sR_ne (by omega), sR_at, pk_us]
theorem hTl3_36 (hp : mm_Hp) (b t k : Nat) : (hTl3 hp b t k).1 36 = rrow (stM (hp.1 33)) b t k (hp.1 36) := by
  unfold hTl3
  rw [sR_at]
theorem hSe_33 (hp : mm_Hp) : (hSe hp).1 33 = fSt hp := by
  unfold hSe
  rw [sR_ne (by omega), sR_at]
theorem hTl_eq {hp : mm_Hp} {b t : Nat} (h : qBf (rsz (stM (hp.1 33))) 32 = (b, t)) : hTl hp = hTl3 hp b t b := by
  unfold hTl
  rw [h]
theorem tellP_of {g : Nat → Int32} {b t : Nat} (h : qBf (rsz (stM g)) 32 = (b, t)) (h1 : 1 ≤ b) (h2 : b ≤ 32) (h3 : ∀ k, k < b → rgM (stM g) b t k < 32) : tellP g := by
  unfold tellP
  rw [h]
  exact ⟨h1, h2, h3⟩
set_option maxRecDepth 20000 in
/-- both tell one ring, or neither does -/
theorem ring_same {hc hm : mm_Hp} (h : Rel1 hc hm) (h2 : Rel2 hc hm) : (rTR hc = 0 ∧ rSe hm = 1 ∧ hTR hc = sR (fOrder hc) 18 (fTR (fOrder hc)).2.2) ∨ (rTR hc = 1 ∧ rSe hm = 0 ∧ tellP ((hSe hm).1 33) ∧ ∃ b t, b ≤ 32 ∧ (hTR hc).1 3 9 = nI b ∧ (hTl (hSe hm)).1 25 13 = nI b ∧ (∀ k, k < b → (hTR hc).1 19 k = nI (rgM (stM (fSt hm)) b t k)) ∧ ∀ k, k < b → (hTl (hSe hm)).1 36 k = nI (rgM (stM (fSt hm)) b t k)) := by
  have hcl := fOrder_cl hc
  have hst := st_same h h2
  have hst' : ∀ i j, i < 32 → j < 32 → qS ((fOrder hc).1 16) i j = stM (fSt hm) i j := fun i j hi hj => (hst i j hi hj).symm
  have hq : qBf (rsz (stM (fSt hm))) 32 = qBf (rsz (qS ((fOrder hc).1 16))) 32 := qBf_same (fun d hd => rsz_same hst hd)
  have hg : rSe hm = 0 ↔ ∃ d, d < 32 ∧ wq (stM (fSt hm)) 32 d d = true := fGood_0 _ _
  have hB : rSe hm = 0 ∨ rSe hm = 1 := fGood_B _
  rcases bTR_ok hcl 32 (Nat.le_refl _) with ⟨i1, i2, i3⟩ | ⟨b, t, i1, i2, i3, i4, i5, i6, i7⟩
  · have i1 : (fTR (fOrder hc)).1 = -1 := i1
    refine Or.inl ⟨by unfold rTR; rw [if_pos i1], ?_, by unfold hTR; rw [if_pos i1]⟩
    rcases hB with e | e
    · exfalso
      obtain ⟨d, hd, e2⟩ := hg.mp e
      obtain ⟨n, hn⟩ := wq_wk (Nat.le_refl _) hd e2
      have r := rsz_ring hd hn
      have := qBf_no (z := rsz (stM (fSt hm))) (n := 32) (by rw [hq, i3]) d hd
      omega
    · exact e
  · have i4 : (fTR (fOrder hc)).1 = nI t := i4
    have hne : ¬ (fTR (fOrder hc)).1 = -1 := by rw [i4]; exact m1_ne i3
    have hrl : isRl (stM (fSt hm)) t b := by
      refine ⟨i7.1, ?_, fun j hj hj2 => ?_⟩
      · rw [wk_same hst i3]; exact i7.2.1
      · rw [wk_same hst i3]; exact i7.2.2 j hj hj2
    have hse : rSe hm = 0 := by
      rw [hg]
      refine ⟨t, i3, ?_⟩
      have w := hrl.2.1
      rw [show b = (b - 1) + 1 by omega] at w
      exact wk_wq i3 w
    have hrg : ∀ k, k < b → rgM (stM (fSt hm)) b t k < 32 := fun k hk => (rg_ok i3 hrl i2 k hk).1
    have e33 : (hSe hm).1 33 = fSt hm := hSe_33 hm
    have hq2 : qBf (rsz (stM ((hSe hm).1 33))) 32 = (b, t) := by rw [e33, hq, i6]
    refine Or.inr ⟨by unfold rTR; rw [if_neg hne], hse, ?_, b, t, i2, ?_, ?_, ?_, ?_⟩
    · refine tellP_of hq2 i1 i2 ?_
      rw [e33]
      exact hrg
    · unfold hTR
      rw [if_neg hne, i4]
      rcases tell_at hcl i3 i7 i2 (fTR (fOrder hc)).2.2 with ⟨a1, _⟩
      exact a1
    · rw [hTl_eq hq2]
      exact hTl3_13 _ _ _ _
    · intro k hk
      unfold hTR
      rw [if_neg hne, i4]
      rcases tell_at hcl i3 i7 i2 (fTR (fOrder hc)).2.2 with ⟨_, a2⟩
      rw [a2 k hk, rgM_same hst' k (fun j hj => hrg j (by omega))]
    · intro k hk
      rw [hTl_eq hq2, hTl3_36, e33]
      exact rrow_at _ b t _ b k hk
where
  qBf_no {z : Nat → Nat} {n : Nat} (h : qBf z n = (99, 0)) : ∀ d, d < n → 99 ≤ z d := by
    have aux : ∀ n, (∀ d, d < n → (qBf z n).1 ≤ z d) ∧ (qBf z n).1 ≤ 99 := by
      intro n
      induction n with
      | zero => exact ⟨fun d hd => absurd hd (Nat.not_lt_zero d), Nat.le_refl _⟩
      | succ n ih =>
        show (∀ d, d < n + 1 → (bBf z n (qBf z n)).1 ≤ z d) ∧ (bBf z n (qBf z n)).1 ≤ 99
        generalize qBf z n = q at ih
        unfold bBf
        split
        · rename_i c
          refine ⟨fun d hd => ?_, by show z n ≤ 99; omega⟩
          show z n ≤ z d
          by_cases e : d = n
          · rw [e]; exact Nat.le_refl _
          · have := ih.1 d (by omega)
            omega
        · rename_i c
          refine ⟨fun d hd => ?_, ih.2⟩
          by_cases e : d = n
          · rw [e]; omega
          · exact ih.1 d (by omega)
    intro d hd
    have := (aux n).1 d hd
    rw [h] at this
    exact this
  tell_at {hp : mm_Hp} {b t : Nat} (hcl : clOk (hp.1 16) (hp.1 17)) (ht : t < 32) (hr : isRl (qS (hp.1 16)) t b) (hb : b ≤ 32) (g : Nat → Int32) : (fTellH (nI t) (sR hp 18 g)).1 3 9 = nI b ∧ ∀ k, k < b → (fTellH (nI t) (sR hp 18 g)).1 19 k = nI (rgM (qS (hp.1 16)) b t k) := by
    have f := fSh_ok (hp := sR hp 18 g) (t := t) ht hcl
    rcases f with ⟨r, r1, r2, r3, r4, r5, _⟩ | ⟨r1, r2, _⟩
    · have r4 : isRl (qS (hp.1 16)) t r := r4
      have r5 : twOk (hp.1 16) t (r + 1) (fSh (nI t) (sR hp 18 g)).2 := r5
      have e := isRl_u hr r4
      subst e
      have erg : rgN (fSh (nI t) (sR hp 18 g)).1 = b := by
        rw [r3]
        unfold rgN
        have h33 : ¬ nI b = 33 := fun q => by have := (nI_eq (b := 33) (by omega) (by omega)).mp q; omega
        rw [if_neg h33, nIc (by omega)]
      have T := fTell_ok ht hr hb r5 b 0 (nI t) (hp.1 19) (by omega) (fun _ => rfl) (fun j hj => absurd hj (Nat.not_lt_zero j))
      have eT : fTellR (nI t) (sR hp 18 g) = fTell (hp.1 16) (fSh (nI t) (sR hp 18 g)).2 b (nI t) 0 (hp.1 19) := by
        unfold fTellR
        rw [erg, sR_ne (by omega), sR_ne (by omega)]
      refine ⟨?_, fun k hk => ?_⟩
      · rw [fTellH_9, eT, T.1]
      · rw [fTellH_19, eT]
        exact T.2 k hk
    · exfalso
      have := r2 (b - 1)
      rw [show b - 1 + 1 = b by have := hr.1; omega] at this
      have this : wk (qS (hp.1 16)) b t t = false := this
      rw [hr.2.1] at this
      cases this
