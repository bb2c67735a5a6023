/-! which die is directly before which: the class's rows of bits, and the reference's table -/
def cN (x : Int32) : Nat := x.toNatClampNeg
theorem cN_nI {n : Nat} (h : n ≤ 4000) : cN (nI n) = n := nIc h
def EdC (hp : mm_Hp) (i j : Nat) : Prop := (∃ k, k < rwN hp ∧ cN (hp.1 13 k) = i ∧ cN (hp.1 14 k) = j) ∨ ∃ s, s < 2 ∧ ∃ a, a < szN hp ∧ ∃ b, b < szN hp ∧ hp.1 11 a = 0 ∧ hp.1 11 b = 0 ∧ ¬ stgS hp s a = -1 ∧ ¬ stgS hp s b = -1 ∧ stgS hp s a < stgS hp s b ∧ dieS hp s a = dieS hp s b ∧ cN (dieS hp (1 - s) a) = i ∧ cN (dieS hp (1 - s) b) = j ∧ ¬ i = j
theorem rows_bits {hp : mm_Hp} (h : rwOk hp) {i : Nat} (hi : i < 32) (j : Nat) : qb (fRows hp i) j = true ↔ ∃ k, k < rwN hp ∧ cN (hp.1 13 k) = i ∧ cN (hp.1 14 k) = j := by
  unfold fRows
  rw [lp_bits (P := fun k i j => cN (hp.1 13 k) = i ∧ cN (hp.1 14 k) = j)]
  · rw [zeroR_at _ _ hi, qb_0]
    constructor
    · rintro (q | q)
      · cases q
      · exact q
    · exact Or.inr
  · intro k hk g i j
    obtain ⟨⟨b, hb, eb⟩, a, ha, ea⟩ := h.2 k hk
    unfold bRow cN
    rw [eb, ea, nIc (by omega), nIc (by omega)]
    by_cases e : i = b
    · rw [e, pk_us, qb_or, qb_bit1 ha, Bool.or_eq_true, decide_eq_true_iff]
      constructor
      · rintro (q | q)
        · exact Or.inl q
        · exact Or.inr ⟨rfl, q⟩
      · rintro (q | ⟨_, q⟩)
        · exact Or.inl q
        · exact Or.inr q
    · rw [pk_un e]
      constructor
      · exact Or.inl
      · rintro (q | ⟨q, _⟩)
        · exact q
        · exact absurd q.symm e
theorem st_nI {x : Int32} (h : stOk x) (hn : ¬ x = -1) : ∃ t, t < 10 ∧ x = nI t := h.elim (fun e => absurd e hn) id
theorem part_ix {d t : Nat} (hd : d < 32) (ht : t < 10) : (nI d * 10 + nI t).toNatClampNeg = d * 10 + t := by
  rw [show (10 : Int32) = nI 10 from rfl, pk_mul, nI_add, nIc (by omega)]
/-- a coin's mark among the partners, by side s -/
theorem gPart_bits {hp : mm_Hp} (h : pcOk hp) {s k : Nat} (hk : k < szN hp) (g : Nat → Int32) (q j : Nat) : qb (gPart hp s k g q) j = true ↔ qb (g q) j = true ∨ (¬ stgS hp s k = -1 ∧ cN (dieS hp s k) * 10 + cN (stgS hp s k) = q ∧ cN (dieS hp (1 - s) k) = j) := by
  unfold gPart
  by_cases hn : stgS hp s k = -1
  · rw [if_pos hn]
    constructor
    · exact Or.inl
    · rintro (r | ⟨r, _⟩)
      · exact r
      · exact absurd hn r
  · rw [if_neg hn]
    obtain ⟨t, ht, et⟩ := st_nI (h.stg hk s) hn
    obtain ⟨d, hd, ed⟩ := h.die hk s
    obtain ⟨o, ho, eo⟩ := h.die hk (1 - s)
    unfold cN
    rw [et, ed, eo, part_ix hd ht, nIc (by omega), nIc (by omega), nIc (by omega)]
    by_cases e : q = d * 10 + t
    · rw [e, pk_us, qb_or, qb_bit1 ho, Bool.or_eq_true, decide_eq_true_iff]
      constructor
      · rintro (r | r)
        · exact Or.inl r
        · exact Or.inr ⟨by rw [← et]; exact hn, rfl, r⟩
      · rintro (r | ⟨_, _, r⟩)
        · exact Or.inl r
        · exact Or.inr r
    · rw [pk_un e]
      constructor
      · exact Or.inl
      · rintro (r | ⟨_, r, _⟩)
        · exact r
        · exact absurd r.symm e
theorem part_bits {hp : mm_Hp} (h : pcOk hp) {q : Nat} (hq : q < 320) (j : Nat) : qb (fPart hp q) j = true ↔ ∃ b, b < szN hp ∧ hp.1 11 b = 0 ∧ ∃ s, s < 2 ∧ ¬ stgS hp s b = -1 ∧ cN (dieS hp s b) * 10 + cN (stgS hp s b) = q ∧ cN (dieS hp (1 - s) b) = j := by
  unfold fPart
  rw [lp_bits (P := fun b q j => hp.1 11 b = 0 ∧ ∃ s, s < 2 ∧ ¬ stgS hp s b = -1 ∧ cN (dieS hp s b) * 10 + cN (stgS hp s b) = q ∧ cN (dieS hp (1 - s) b) = j)]
  · rw [zeroR_at _ _ hq, qb_0]
    constructor
    · rintro (q | q)
      · cases q
      · exact q
    · exact Or.inr
  · intro k hk g q j
    unfold bPart
    by_cases e : hp.1 11 k = 0
    · rw [if_pos e, gPart_bits h hk, gPart_bits h hk]
      constructor
      · rintro ((r | r) | r)
        · exact Or.inl r
        · exact Or.inr ⟨e, 0, by omega, r⟩
        · exact Or.inr ⟨e, 1, by omega, r⟩
      · rintro (r | ⟨_, s, hs, r⟩)
        · exact Or.inl (Or.inl r)
        · rcases (by omega : s = 0 ∨ s = 1) with rfl | rfl
          · exact Or.inl (Or.inr r)
          · exact Or.inr r
    · rw [if_neg e]
      constructor
      · exact Or.inl
      · rintro (r | ⟨r, _⟩)
        · exact r
        · exact absurd r e
theorem behind_bits (g : Nat → Int32) (d t j : Nat) : qb (fBehind g d t) j = true ↔ ∃ u, t < u ∧ u < 10 ∧ qb (g (d * 10 + u)) j = true := by
  unfold fBehind
  rw [lp_bit (P := fun k j => qb (g (d * 10 + (t + 1 + k))) j = true)]
  · rw [qb_0]
    constructor
    · rintro (q | ⟨k, hk, q⟩)
      · cases q
      · exact ⟨t + 1 + k, by omega, by omega, q⟩
    · rintro ⟨u, h1, h2, q⟩
      refine Or.inr ⟨u - t - 1, by omega, ?_⟩
      rw [show t + 1 + (u - t - 1) = u by omega]
      exact q
  · intro k hk a j
    rw [qb_or, Bool.or_eq_true]
theorem stg_bits {hp : mm_Hp} (h : pcOk hp) {s : Nat} (i j : Nat) : qb (fStg hp s i) j = true ↔ qb (hp.1 16 i) j = true ∨ ∃ a, a < szN hp ∧ hp.1 11 a = 0 ∧ ¬ stgS hp s a = -1 ∧ cN (dieS hp (1 - s) a) = i ∧ ¬ i = j ∧ ∃ u, cN (stgS hp s a) < u ∧ u < 10 ∧ qb (hp.1 15 (cN (dieS hp s a) * 10 + u)) j = true := by
  unfold fStg
  rw [lp_bits (P := fun a i j => hp.1 11 a = 0 ∧ ¬ stgS hp s a = -1 ∧ cN (dieS hp (1 - s) a) = i ∧ ¬ i = j ∧ ∃ u, cN (stgS hp s a) < u ∧ u < 10 ∧ qb (hp.1 15 (cN (dieS hp s a) * 10 + u)) j = true)]
  intro k hk g i j
  unfold bStg
  by_cases e : hp.1 11 k = 0
  · rw [if_pos e]
    by_cases hn : stgS hp s k = -1
    · rw [if_pos hn]
      constructor
      · exact Or.inl
      · rintro (r | ⟨_, r, _⟩)
        · exact r
        · exact absurd hn r
    · rw [if_neg hn]
      obtain ⟨o, ho, eo⟩ := h.die hk (1 - s)
      rw [eo]
      rw [nIc (by omega), cN_nI (by omega)]
      by_cases e2 : i = o
      · rw [e2, pk_us, qb_or, Bool.or_eq_true, qb_and, Bool.and_eq_true, behind_bits, qb_xor, qb_bit1 ho]
        constructor
        · rintro (r | ⟨⟨u, h1, h2, h3⟩, r⟩)
          · exact Or.inl r
          · refine Or.inr ⟨e, hn, rfl, ?_, u, h1, h2, h3⟩
            intro q
            subst q
            rw [decide_eq_true rfl, qb_m1 _ ho] at r
            cases r
        · rintro (r | ⟨_, _, _, r, u, h1, h2, h3⟩)
          · exact Or.inl r
          · refine Or.inr ⟨⟨u, h1, h2, h3⟩, ?_⟩
            have hj : j < 32 := by
              rcases Nat.lt_or_ge j 32 with q | q
              · exact q
              · rw [qb_ge q] at h3; cases h3
            rw [decide_eq_false r, qb_m1 _ hj]
            rfl
      · rw [pk_un e2]
        constructor
        · exact Or.inl
        · rintro (r | ⟨_, _, r, _⟩)
          · exact r
          · exact absurd r.symm e2
  · rw [if_neg e]
    constructor
    · exact Or.inl
    · rintro (r | ⟨r, _⟩)
      · exact r
      · exact absurd r e
theorem side_ne {hp : mm_Hp} (h : pcOk hp) {a b s s' : Nat} (ha : a < szN hp) (hb : b < szN hp) (hs : s < 2) (hs' : s' < 2) (e : cN (dieS hp s a) = cN (dieS hp s' b)) : s = s' ∧ dieS hp s a = dieS hp s' b := by
  obtain ⟨_, ⟨fa, h1, e1⟩, ga, h2, h3, e2⟩ := h.1.2 a ha
  obtain ⟨_, ⟨fb, h4, e4⟩, gb, h5, h6, e5⟩ := h.1.2 b hb
  unfold cN at e
  rcases (by omega : s = 0 ∨ s = 1) with rfl | rfl <;> rcases (by omega : s' = 0 ∨ s' = 1) with rfl | rfl
  · refine ⟨rfl, ?_⟩
    have e : (hp.1 5 a).toNatClampNeg = (hp.1 5 b).toNatClampNeg := e
    show hp.1 5 a = hp.1 5 b
    rw [e1, e4, nIc (by omega), nIc (by omega)] at e
    rw [e1, e4, e]
  · exfalso
    have e : (hp.1 5 a).toNatClampNeg = (hp.1 6 b).toNatClampNeg := e
    rw [e1, e5, nIc (by omega), nIc (by omega)] at e
    omega
  · exfalso
    have e : (hp.1 6 a).toNatClampNeg = (hp.1 5 b).toNatClampNeg := e
    rw [e2, e4, nIc (by omega), nIc (by omega)] at e
    omega
  · refine ⟨rfl, ?_⟩
    have e : (hp.1 6 a).toNatClampNeg = (hp.1 6 b).toNatClampNeg := e
    show hp.1 6 a = hp.1 6 b
    rw [e2, e5, nIc (by omega), nIc (by omega)] at e
    rw [e2, e5, e]
/-- the stage behind, by the coins -/
theorem behind_ed {hp : mm_Hp} (h : pcOk hp) {s a : Nat} (hs : s < 2) (ha : a < szN hp) (hn : ¬ stgS hp s a = -1) (j : Nat) : (∃ u, cN (stgS hp s a) < u ∧ u < 10 ∧ qb (fPart hp (cN (dieS hp s a) * 10 + u)) j = true) ↔ ∃ b, b < szN hp ∧ hp.1 11 b = 0 ∧ ¬ stgS hp s b = -1 ∧ stgS hp s a < stgS hp s b ∧ dieS hp s a = dieS hp s b ∧ cN (dieS hp (1 - s) b) = j := by
  obtain ⟨t, ht, et⟩ := st_nI (h.stg ha s) hn
  obtain ⟨d, hd, ed⟩ := h.die ha s
  have ed2 : cN (dieS hp s a) = d := by rw [ed, cN_nI (by omega)]
  have et2 : cN (stgS hp s a) = t := by rw [et, cN_nI (by omega)]
  constructor
  · rintro ⟨u, h1, h2, h3⟩
    rw [ed2, part_bits h (by omega)] at h3
    obtain ⟨b, hb, h4, s', hs', h5, h6, h7⟩ := h3
    obtain ⟨v, hv, ev⟩ := st_nI (h.stg hb s') h5
    obtain ⟨c, hc, ec⟩ := h.die hb s'
    have ec2 : cN (dieS hp s' b) = c := by rw [ec, cN_nI (by omega)]
    have ev2 : cN (stgS hp s' b) = v := by rw [ev, cN_nI (by omega)]
    rw [ec2, ev2] at h6
    rw [et2] at h1
    obtain ⟨rfl, q⟩ := side_ne h ha hb hs hs' (by rw [ed2, ec2]; omega)
    exact ⟨b, hb, h4, h5, by rw [et, ev, nI_ltI (by omega) (by omega)]; omega, q, h7⟩
  · rintro ⟨b, hb, h4, h5, h6, h7, h8⟩
    obtain ⟨v, hv, ev⟩ := st_nI (h.stg hb s) h5
    rw [et, ev, nI_ltI (by omega) (by omega)] at h6
    refine ⟨v, by rw [et2]; exact h6, hv, ?_⟩
    rw [part_bits h (by omega)]
    refine ⟨b, hb, h4, s, hs, h5, ?_, h8⟩
    rw [ev, cN_nI (by omega), ← h7]
theorem next_bits {hp : mm_Hp} (h : prOk hp) {i : Nat} (hi : i < 32) (j : Nat) : qb ((fOrder hp).1 16 i) j = true ↔ EdC hp i j := by
  have p1 : pcOk (sR hp 16 (fRows hp)) := pcOk_sR h.1 (by omega) _
  have p2 : pcOk (sR (sR hp 16 (fRows hp)) 15 (fPart (sR hp 16 (fRows hp)))) := pcOk_sR p1 (by omega) _
  have p3 : pcOk (sR (sR (sR hp 16 (fRows hp)) 15 (fPart (sR hp 16 (fRows hp)))) 16 (fStg (sR (sR hp 16 (fRows hp)) 15 (fPart (sR hp 16 (fRows hp)))) 0)) := pcOk_sR p2 (by omega) _
  show qb (fStg (sR (sR (sR hp 16 (fRows hp)) 15 (fPart (sR hp 16 (fRows hp)))) 16 (fStg (sR (sR hp 16 (fRows hp)) 15 (fPart (sR hp 16 (fRows hp)))) 0)) 1 i) j = true ↔ _
  rw [stg_bits p3 i j]
  show (qb (fStg (sR (sR hp 16 (fRows hp)) 15 (fPart (sR hp 16 (fRows hp)))) 0 i) j = true ∨ ∃ a, a < szN hp ∧ hp.1 11 a = 0 ∧ ¬ stgS hp 1 a = -1 ∧ cN (dieS hp (1 - 1) a) = i ∧ ¬ i = j ∧ ∃ u, cN (stgS hp 1 a) < u ∧ u < 10 ∧ qb (fPart (sR hp 16 (fRows hp)) (cN (dieS hp 1 a) * 10 + u)) j = true) ↔ _
  rw [stg_bits p2 i j]
  show ((qb (fRows hp i) j = true ∨ ∃ a, a < szN hp ∧ hp.1 11 a = 0 ∧ ¬ stgS hp 0 a = -1 ∧ cN (dieS hp (1 - 0) a) = i ∧ ¬ i = j ∧ ∃ u, cN (stgS hp 0 a) < u ∧ u < 10 ∧ qb (fPart (sR hp 16 (fRows hp)) (cN (dieS hp 0 a) * 10 + u)) j = true) ∨ _) ↔ _
  have hb := fun (s a : Nat) (hs : s < 2) (ha : a < szN hp) (hn : ¬ stgS hp s a = -1) => behind_ed p1 (s := s) (a := a) hs ha hn j
  rw [rows_bits h.2 hi]
  unfold EdC
  constructor
  · rintro ((q | ⟨a, ha, h1, h2, h3, h4, h5⟩) | ⟨a, ha, h1, h2, h3, h4, h5⟩)
    · exact Or.inl q
    · obtain ⟨b, hb1, b2, b3, b4, b5, b6⟩ := (hb 0 a (by omega) ha h2).mp h5
      exact Or.inr ⟨0, by omega, a, ha, b, hb1, h1, b2, h2, b3, b4, b5, h3, b6, h4⟩
    · obtain ⟨b, hb1, b2, b3, b4, b5, b6⟩ := (hb 1 a (by omega) ha h2).mp h5
      exact Or.inr ⟨1, by omega, a, ha, b, hb1, h1, b2, h2, b3, b4, b5, h3, b6, h4⟩
  · rintro (q | ⟨s, hs, a, ha, b, hb1, h1, b2, h2, b3, b4, b5, h3, b6, h4⟩)
    · exact Or.inl (Or.inl q)
    · rcases (by omega : s = 0 ∨ s = 1) with rfl | rfl
      · exact Or.inl (Or.inr ⟨a, ha, h1, h2, h3, h4, (hb 0 a hs ha h2).mpr ⟨b, hb1, b2, b3, b4, b5, b6⟩⟩)
      · exact Or.inr ⟨a, ha, h1, h2, h3, h4, (hb 1 a hs ha h2).mpr ⟨b, hb1, b2, b3, b4, b5, b6⟩⟩
/-! the reference's table -/
theorem lp_nz {F : Nat → (Nat → Int32) → Nat → Int32} {P : Nat → Nat → Prop} : ∀ {n : Nat}, (∀ k, k < n → ∀ g q, (nz (F k g q) = true ↔ nz (g q) = true ∨ P k q)) → ∀ g q, nz (lp F n g q) = true ↔ nz (g q) = true ∨ ∃ k, k < n ∧ P k q
  | 0, _, g, q => ⟨Or.inl, fun h => h.elim id (fun ⟨k, hk, _⟩ => absurd hk (Nat.not_lt_zero k))⟩
  | n + 1, h, g, q => by
    show nz (F n (lp F n g) q) = true ↔ _
    rw [h n (by omega), lp_nz (fun k hk => h k (by omega)) g q]
    constructor
    · rintro ((h1 | ⟨k, hk, h1⟩) | h1)
      · exact Or.inl h1
      · exact Or.inr ⟨k, by omega, h1⟩
      · exact Or.inr ⟨n, by omega, h1⟩
    · rintro (h1 | ⟨k, hk, h1⟩)
      · exact Or.inl (Or.inl h1)
      · by_cases q : k = n
        · subst q; exact Or.inr h1
        · exact Or.inl (Or.inr ⟨k, by omega, h1⟩)
theorem nz_upd1 (g : Nat → Int32) (p q : Nat) : nz (upd g p 1 q) = true ↔ nz (g q) = true ∨ p = q := by
  by_cases e : q = p
  · rw [e, pk_us]
    exact ⟨fun _ => Or.inr rfl, fun _ => rfl⟩
  · rw [pk_un e]
    exact ⟨Or.inl, fun h => h.elim id (fun h => absurd h.symm e)⟩
def mdS (hp : mm_Hp) (s a : Nat) : Int32 := if s = 0 then hp.1 26 a else hp.1 27 a
def mtS (hp : mm_Hp) (s a : Nat) : Int32 := hp.1 30 (2 * a + s)
def EdM (hp : mm_Hp) (i j : Nat) : Prop := (∃ k, k < mrwN hp ∧ cN (hp.1 31 k) = i ∧ cN (hp.1 32 k) = j) ∨ ∃ s, s < 2 ∧ ∃ a, a < mszN hp ∧ ∃ b, b < mszN hp ∧ hp.1 29 a = 0 ∧ hp.1 29 b = 0 ∧ ¬ mtS hp s a = -1 ∧ ¬ mtS hp s b = -1 ∧ mtS hp s a < mtS hp s b ∧ mdS hp s a = mdS hp s b ∧ cN (mdS hp (1 - s) a) = i ∧ cN (mdS hp (1 - s) b) = j ∧ ¬ i = j
theorem mdS_nI {hp : mm_Hp} (h : mdOk hp) {a : Nat} (ha : a < mszN hp) (s : Nat) : ∃ d, d < 32 ∧ mdS hp s a = nI d := by
  obtain ⟨_, ⟨f, h1, e1⟩, g, h2, h3, e2⟩ := h.2 a ha
  unfold mdS
  split
  · exact ⟨f, by omega, e1⟩
  · exact ⟨g, h3, e2⟩
theorem mszN_80 {hp : mm_Hp} (h : mdOk hp) : mszN hp ≤ 80 := by
  obtain ⟨n, hn, e⟩ := h.1
  unfold mszN
  rw [e, nIc (by omega)]; exact hn
theorem mdI_S {hp : mm_Hp} {s a : Nat} (hs : s < 2) (ha : a ≤ 80) : mdI hp (nI s) (nI a) = mdS hp s a := by
  unfold mdI mdS
  rw [nIc (by omega)]
  rcases (by omega : s = 0 ∨ s = 1) with rfl | rfl <;> rfl
theorem mdI_O {hp : mm_Hp} {s a : Nat} (hs : s < 2) (ha : a ≤ 80) : mdI hp (1 - nI s) (nI a) = mdS hp (1 - s) a := by
  rcases (by omega : s = 0 ∨ s = 1) with rfl | rfl
  · exact mdI_S (s := 1) (by omega) ha
  · exact mdI_S (s := 0) (by omega) ha
theorem msI_S {hp : mm_Hp} {s a : Nat} (hs : s < 2) (ha : a ≤ 80) : msI hp (nI s) (nI a) = mtS hp s a := by
  unfold msI mtS
  rw [show (2 : Int32) = nI 2 from rfl, pk_mul, nI_add, nIc (by omega)]
theorem nlt_le' {x y : Int32} : ¬ y ≤ x ↔ x < y := ⟨nle_lt, lt_nge⟩
theorem CmpC_iff {hp : mm_Hp} {s a b : Nat} (hs : s < 2) (ha : a ≤ 80) (hb : b ≤ 80) : CmpC hp (nI a) (nI b) (nI s) = true ↔ mdS hp s a = mdS hp s b ∧ hp.1 29 a = 0 ∧ hp.1 29 b = 0 ∧ ¬ mtS hp s a = -1 ∧ ¬ mtS hp s b = -1 ∧ mtS hp s a < mtS hp s b ∧ ¬ mdS hp (1 - s) a = mdS hp (1 - s) b := by
  unfold CmpC
  rw [mdI_S hs ha, mdI_S hs hb, mdI_O hs ha, mdI_O hs hb, msI_S hs ha, msI_S hs hb, nIc (by omega), nIc (by omega), ← nlt_le']
  simp only [Bool.and_eq_true, decide_eq_true_iff, Bool.not_eq_true', decide_eq_false_iff_not]
  constructor
  · rintro ⟨⟨⟨⟨⟨⟨h1, h2⟩, h3⟩, h4⟩, h5⟩, h6⟩, h7⟩
    exact ⟨h1, h2, h3, h4, h5, h6, h7⟩
  · rintro ⟨h1, h2, h3, h4, h5, h6, h7⟩
    exact ⟨⟨⟨⟨⟨⟨h1, h2⟩, h3⟩, h4⟩, h5⟩, h6⟩, h7⟩
theorem ixC_eq {hp : mm_Hp} (h : mdOk hp) {s a b : Nat} (hs : s < 2) (ha : a < mszN hp) (hb : b < mszN hp) : ixC hp (nI a) (nI b) (nI s) = 32 * cN (mdS hp (1 - s) a) + cN (mdS hp (1 - s) b) := by
  have h80 := mszN_80 h
  unfold ixC
  rw [mdI_O hs (by omega), mdI_O hs (by omega)]
  obtain ⟨d, hd, e⟩ := mdS_nI h ha (1 - s)
  obtain ⟨c, hc, e2⟩ := mdS_nI h hb (1 - s)
  rw [e, e2, show (32 : Int32) = nI 32 from rfl, pk_mul, nI_add, nIc (by omega), cN_nI (by omega), cN_nI (by omega)]
theorem gC_nz {hp : mm_Hp} (h : mdOk hp) {s a b : Nat} (hs : s < 2) (ha : a < mszN hp) (hb : b < mszN hp) (g : Nat → Int32) (q : Nat) : nz (gC hp (nI a) (nI b) (nI s) g q) = true ↔ nz (g q) = true ∨ (CmpC hp (nI a) (nI b) (nI s) = true ∧ 32 * cN (mdS hp (1 - s) a) + cN (mdS hp (1 - s) b) = q) := by
  unfold gC
  by_cases e : CmpC hp (nI a) (nI b) (nI s) = true
  · rw [if_pos e, nz_upd1, ixC_eq h hs ha hb]
    constructor
    · rintro (r | r)
      · exact Or.inl r
      · exact Or.inr ⟨e, r⟩
    · rintro (r | ⟨_, r⟩)
      · exact Or.inl r
      · exact Or.inr r
  · rw [if_neg e]
    exact ⟨Or.inl, fun h => h.elim id (fun h => absurd h.1 e)⟩
theorem steps_ed {hp : mm_Hp} (h : msOk hp) {i j : Nat} (hi : i < 32) (hj : j < 32) : stM (fSt hp) i j = true ↔ EdM hp i j := by
  have h80 := mszN_80 h.1
  show nz (fSt hp (32 * i + j)) = true ↔ _
  unfold fSt
  rw [lp_nz (P := fun a q => ∃ b, b < mszN hp ∧ ∃ s, s < 2 ∧ CmpC hp (nI a) (nI b) (nI s) = true ∧ 32 * cN (mdS hp (1 - s) a) + cN (mdS hp (1 - s) b) = q)]
  · rw [lp_nz (P := fun k q => 32 * cN (hp.1 31 k) + cN (hp.1 32 k) = q)]
    · rw [zeroR_at _ _ (by omega)]
      unfold EdM
      constructor
      · rintro ((q | ⟨k, hk, q⟩) | ⟨a, ha, b, hb, s, hs, h1, h2⟩)
        · cases q
        · obtain ⟨⟨x, hx, ex⟩, y, hy, ey⟩ := h.2.2 k hk
          rw [ex, ey, cN_nI (by omega), cN_nI (by omega)] at q
          exact Or.inl ⟨k, hk, by rw [ex, cN_nI (by omega)]; omega, by rw [ey, cN_nI (by omega)]; omega⟩
        · rw [CmpC_iff hs (by omega) (by omega)] at h1
          obtain ⟨x, hx, ex⟩ := mdS_nI h.1 ha (1 - s)
          obtain ⟨y, hy, ey⟩ := mdS_nI h.1 hb (1 - s)
          obtain ⟨c1, c2, c3, c4, c5, c6, c7⟩ := h1
          have f1 : cN (mdS hp (1 - s) a) = i := by rw [ex, ey, cN_nI (by omega), cN_nI (by omega)] at h2; rw [ex, cN_nI (by omega)]; omega
          have f2 : cN (mdS hp (1 - s) b) = j := by rw [ex, ey, cN_nI (by omega), cN_nI (by omega)] at h2; rw [ey, cN_nI (by omega)]; omega
          refine Or.inr ⟨s, hs, a, ha, b, hb, c2, c3, c4, c5, c6, c1, f1, f2, ?_⟩
          intro e
          rw [ex, cN_nI (by omega)] at f1
          rw [ey, cN_nI (by omega)] at f2
          exact c7 (by rw [ex, ey, f1, f2, e])
      · rintro (⟨k, hk, h1, h2⟩ | ⟨s, hs, a, ha, b, hb, c2, c3, c4, c5, c6, c1, f1, f2, f3⟩)
        · exact Or.inl (Or.inr ⟨k, hk, by rw [h1, h2]⟩)
        · refine Or.inr ⟨a, ha, b, hb, s, hs, ?_, by rw [f1, f2]⟩
          rw [CmpC_iff hs (by omega) (by omega)]
          exact ⟨c1, c2, c3, c4, c5, c6, fun e => f3 (by rw [← f1, ← f2, e])⟩
    · intro k hk g q
      obtain ⟨⟨x, hx, ex⟩, y, hy, ey⟩ := h.2.2 k hk
      unfold bMr
      rw [nz_upd1, ex, ey, show (32 : Int32) = nI 32 from rfl, pk_mul, nI_add, nIc (by omega), cN_nI (by omega), cN_nI (by omega)]
  · intro a ha g q
    rw [lp_nz (P := fun b q => ∃ s, s < 2 ∧ CmpC hp (nI a) (nI b) (nI s) = true ∧ 32 * cN (mdS hp (1 - s) a) + cN (mdS hp (1 - s) b) = q)]
    intro b hb g q
    unfold bC2
    rw [show (1 : Int32) = nI 1 from rfl, show (0 : Int32) = nI 0 from rfl, gC_nz h.1 (by omega) ha hb, gC_nz h.1 (by omega) ha hb]
    constructor
    · rintro ((r | r) | r)
      · exact Or.inl r
      · exact Or.inr ⟨0, by omega, r⟩
      · exact Or.inr ⟨1, by omega, r⟩
    · rintro (r | ⟨s, hs, r⟩)
      · exact Or.inl (Or.inl r)
      · rcases (by omega : s = 0 ∨ s = 1) with rfl | rfl
        · exact Or.inl (Or.inr r)
        · exact Or.inr r
