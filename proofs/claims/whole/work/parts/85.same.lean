/-! doubt, wear, row: alike -/
theorem hTl3_ne (hp : mm_Hp) (b t k : Nat) {c : Nat} (h1 : c ≠ 25) (h2 : c ≠ 35) (h3 : c ≠ 36) : (hTl3 hp b t k).1 c = hp.1 c := by
  unfold hTl3
  rw [sR_ne h3, sR_ne h1, sR_ne h2]
theorem hTl3_25 (hp : mm_Hp) (b t k : Nat) {j : Nat} (h : j ≠ 13) : (hTl3 hp b t k).1 25 j = hp.1 25 j := by
  unfold hTl3
  rw [sR_ne (by omega), sR_at, pk_un h]
theorem hMay_ne (hp : mm_Hp) {c : Nat} (h1 : c ≠ 25) (h2 : c ≠ 33) (h3 : c ≠ 34) (h4 : c ≠ 35) (h5 : c ≠ 36) : (hMay hp).1 c = hp.1 c := by
  unfold hMay
  by_cases q : rSe hp = 0
  · rw [if_pos q]
    unfold hTl
    rw [hTl3_ne _ _ _ _ h1 h4 h5, hSe_ne _ h2 h3]
  · rw [if_neg q, hSe_ne _ h2 h3]
theorem hMay_25 (hp : mm_Hp) {j : Nat} (h : j ≠ 13) : (hMay hp).1 25 j = hp.1 25 j := by
  unfold hMay
  by_cases q : rSe hp = 0
  · rw [if_pos q]
    unfold hTl
    rw [hTl3_25 _ _ _ _ h, hSe_ne _ (by omega) (by omega)]
  · rw [if_neg q, hSe_ne _ (by omega) (by omega)]
theorem fTellH_ne (d : Int32) (hp : mm_Hp) {c : Nat} (h1 : c ≠ 3) (h2 : c ≠ 18) (h3 : c ≠ 19) : (fTellH d hp).1 c = hp.1 c := by
  unfold fTellH
  rw [sR_ne h3, sR_ne h1, sR_ne h2]
theorem fTellH_3 (d : Int32) (hp : mm_Hp) {j : Nat} (h : j ≠ 9) : (fTellH d hp).1 3 j = hp.1 3 j := by
  unfold fTellH
  rw [sR_ne (by omega), sR_at, pk_un h]
theorem hTR_g (o : mm_Hp) (q : Int32) (r : Nat → Int32) {c : Nat} (h1 : c ≠ 3) (h5 : c ≠ 18) (h6 : c ≠ 19) : (if q = -1 then sR o 18 r else fTellH q (sR o 18 r)).1 c = o.1 c := by
  split
  · exact sR_ne h5
  · rw [fTellH_ne _ _ h1 h5 h6, sR_ne h5]
theorem hTR_g3 (o : mm_Hp) (q : Int32) (r : Nat → Int32) {j : Nat} (h : j ≠ 9) : (if q = -1 then sR o 18 r else fTellH q (sR o 18 r)).1 3 j = o.1 3 j := by
  split
  · rw [sR_ne (by omega)]
  · rw [fTellH_3 _ _ h, sR_ne (by omega)]
set_option maxRecDepth 20000 in
theorem hTR_ne (hp : mm_Hp) {c : Nat} (h1 : c ≠ 3) (h2 : c ≠ 15) (h3 : c ≠ 16) (h4 : c ≠ 17) (h5 : c ≠ 18) (h6 : c ≠ 19) : (hTR hp).1 c = hp.1 c := by
  have e := fOrder_ne hp h2 h3 h4
  unfold hTR
  revert e
  generalize fTR (fOrder hp) = q
  generalize fOrder hp = o
  intro e
  exact (hTR_g o q.1 q.2.2 h1 h5 h6).trans e
set_option maxRecDepth 20000 in
theorem hTR_3 (hp : mm_Hp) {j : Nat} (h : j ≠ 9) : (hTR hp).1 3 j = hp.1 3 j := by
  have e : (fOrder hp).1 3 = hp.1 3 := fOrder_ne hp (by omega) (by omega) (by omega)
  unfold hTR
  revert e
  generalize fTR (fOrder hp) = q
  generalize fOrder hp = o
  intro e
  exact (hTR_g3 o q.1 q.2.2 h).trans (congrFun e j)
set_option maxRecDepth 20000 in
theorem may_same {hc hm : mm_Hp} (R : Rel hc hm) : ((rTR hc = 0 ∧ rSe hm = 1) ∨ (rTR hc = 1 ∧ rSe hm = 0)) ∧ Rel (hTR hc) (hMay hm) := by
  obtain ⟨h1, h2, h3, h4, h5, h6⟩ := R
  have ce : ∀ {c : Nat}, c ≠ 3 ∧ c ≠ 15 ∧ c ≠ 16 ∧ c ≠ 17 ∧ c ≠ 18 ∧ c ≠ 19 → (hTR hc).1 c = hc.1 c := fun h => hTR_ne hc h.1 h.2.1 h.2.2.1 h.2.2.2.1 h.2.2.2.2.1 h.2.2.2.2.2
  have c3 : ∀ {j : Nat}, j ≠ 9 → (hTR hc).1 3 j = hc.1 3 j := fun h => hTR_3 hc h
  have me : ∀ {c : Nat}, c ≠ 25 ∧ c ≠ 33 ∧ c ≠ 34 ∧ c ≠ 35 ∧ c ≠ 36 → (hMay hm).1 c = hm.1 c := fun h => hMay_ne hm h.1 h.2.1 h.2.2.1 h.2.2.2.1 h.2.2.2.2
  have zm : ∀ {j : Nat}, j ≠ 13 → (hMay hm).1 25 j = hm.1 25 j := fun h => hMay_25 hm h
  have k1 : Rel1 (hTR hc) (hMay hm) := h1.cg (by rw [ce (by omega)]) (ce (by omega)) (ce (by omega)) (ce (by omega)) (ce (by omega)) (ce (by omega)) (ce (by omega)) (zm (by omega)) (me (by omega)) (me (by omega)) (me (by omega)) (me (by omega)) (me (by omega))
  have k2 : Rel2 (hTR hc) (hMay hm) := h2.cg (c3 (by omega)) (ce (by omega)) (ce (by omega)) (zm (by omega)) (me (by omega)) (me (by omega))
  have k4 : Rel4 (hTR hc) (hMay hm) := h4.cg (by rw [ce (by omega)]) (ce (by omega)) (zm (by omega)) (me (by omega))
  have k5 : Rel5 (hTR hc) (hMay hm) := h5.cg (by rw [ce (by omega)]) (ce (by omega)) (zm (by omega)) (me (by omega))
  have k6 : Rel6 (hTR hc) (hMay hm) := h6.cg (by rw [ce (by omega)]) (ce (by omega)) (ce (by omega)) (ce (by omega)) (ce (by omega)) (zm (by omega)) (me (by omega)) (me (by omega))
  rcases ring_same h1 h2 with ⟨q1, q2, q3⟩ | ⟨q1, q2, q3, b, t, q4, q5, q6, q7, q8⟩
  · have hm1 : hMay hm = hSe hm := by unfold hMay; rw [if_neg (by rw [q2]; decide)]
    have k3 : Rel3 (hTR hc) (hMay hm) := by
      refine h3.cg ?_ ?_ ?_ ?_
      · rw [q3, sR_ne (by omega), fOrder_ne _ (by omega) (by omega) (by omega)]
      · rw [q3, sR_ne (by omega), fOrder_ne _ (by omega) (by omega) (by omega)]
      · rw [hm1, hSe_ne _ (by omega) (by omega)]
      · rw [hm1, hSe_ne _ (by omega) (by omega)]
    exact ⟨Or.inl ⟨q1, q2⟩, k1, k2, k3, k4, k5, k6⟩
  · have hm1 : hMay hm = hTl (hSe hm) := by unfold hMay; rw [if_pos q2]
    have k3 : Rel3 (hTR hc) (hMay hm) := by
      rw [hm1]
      exact ⟨b, q4, q5, q6, fun k hk => by rw [q7 k hk, q8 k hk]⟩
    exact ⟨Or.inr ⟨q1, q2⟩, k1, k2, k3, k4, k5, k6⟩
/-! a doubt, a stage, a row set in both -/
theorem Rel_setD {hc hm : mm_Hp} (R : Rel hc hm) {k : Nat} (hk : k < 80) {b : Int32} (hb : isB b) : Rel (setD (nI k) b hc) (setA hm 29 k b) := by
  obtain ⟨h1, h2, h3, h4, h5, h6⟩ := R
  have ce : ∀ {c : Nat}, c ≠ 11 → (setD (nI k) b hc).1 c = hc.1 c := fun h => mm_up_n h
  have e11 : (setD (nI k) b hc).1 11 = upd (hc.1 11) k b := by
    show (mm_up hc.1 11 (nI k).toNatClampNeg b) 11 = _
    rw [mm_up_s, nIc (by omega)]
  have me : ∀ {c : Nat}, c ≠ 29 → (setA hm 29 k b).1 c = hm.1 c := fun h => setA_ne _ _ _ h
  have zm : ∀ {j : Nat}, j ≠ 1000 → (setA hm 29 k b).1 25 j = hm.1 25 j := fun _ => by rw [me (by omega)]
  refine ⟨⟨?_, ?_⟩, h2.cg (by rw [ce (by omega)]) (ce (by omega)) (ce (by omega)) (by rw [me (by omega)]) (me (by omega)) (me (by omega)), h3.cg (by rw [ce (by omega)]) (ce (by omega)) (by rw [me (by omega)]) (me (by omega)), h4.cg (by rw [ce (by omega)]) (ce (by omega)) (by rw [me (by omega)]) (me (by omega)), h5.cg (by rw [ce (by omega)]) (ce (by omega)) (by rw [me (by omega)]) (me (by omega)), h6.cg (by rw [ce (by omega)]) (ce (by omega)) (ce (by omega)) (ce (by omega)) (ce (by omega)) (by rw [me (by omega)]) (me (by omega)) (me (by omega))⟩
  · rw [ce (c := 1) (by omega), ce (c := 5) (by omega), ce (c := 6) (by omega), ce (c := 7) (by omega), ce (c := 8) (by omega), ce (c := 9) (by omega), me (c := 25) (by omega), me (c := 26) (by omega), me (c := 27) (by omega), me (c := 28) (by omega), me (c := 30) (by omega)]
    exact h1.1
  · intro j hj
    rw [e11, setA_at]
    by_cases e : j = k
    · rw [e, pk_us, pk_us]; exact ⟨hb, rfl⟩
    · rw [pk_un e, pk_un e]; exact h1.2 j hj
theorem Rel_setS {hc hm : mm_Hp} (R : Rel hc hm) {k j : Nat} (hk : k < szN hc) (hj : j < 2) {t : Int32} (ht : stOk t) : Rel (setS (nI k) (nI j) t hc) (setA hm 30 (2 * k + j) t) := by
  obtain ⟨h1, h2, h3, h4, h5, h6⟩ := R
  have n := h1.n
  have me : ∀ {c : Nat}, c ≠ 30 → (setA hm 30 (2 * k + j) t).1 c = hm.1 c := fun h => setA_ne _ _ _ h
  have ce : ∀ {c : Nat}, c ≠ 8 ∧ c ≠ 9 → (setS (nI k) (nI j) t hc).1 c = hc.1 c := fun h => by
    unfold setS
    split
    · exact mm_up_n h.1
    · exact mm_up_n h.2
  have e8 : (setS (nI k) (nI j) t hc).1 8 = if j = 0 then upd (hc.1 8) k t else hc.1 8 := by
    unfold setS
    rcases (by omega : j = 0 ∨ j = 1) with rfl | rfl
    · rw [if_pos (show nI 0 = 0 from rfl), if_pos rfl]
      show (mm_up hc.1 8 (nI k).toNatClampNeg t) 8 = _
      rw [mm_up_s, nIc (n := k) (by omega)]
    · rw [if_neg (show ¬ nI 1 = 0 by decide), if_neg (show ¬ 1 = 0 by omega)]
      exact upn (show 8 ≠ 9 by omega)
  have e9 : (setS (nI k) (nI j) t hc).1 9 = if j = 0 then hc.1 9 else upd (hc.1 9) k t := by
    unfold setS
    rcases (by omega : j = 0 ∨ j = 1) with rfl | rfl
    · rw [if_pos (show nI 0 = 0 from rfl), if_pos rfl]
      exact upn (show 9 ≠ 8 by omega)
    · rw [if_neg (show ¬ nI 1 = 0 by decide), if_neg (show ¬ 1 = 0 by omega)]
      show (mm_up hc.1 9 (nI k).toNatClampNeg t) 9 = _
      rw [mm_up_s, nIc (n := k) (by omega)]
  refine ⟨⟨⟨szN hc, n.1, ?_, ?_, fun i hi => ?_⟩, ?_⟩, h2.cg (by rw [ce (by omega)]) (ce (by omega)) (ce (by omega)) (by rw [me (by omega)]) (me (by omega)) (me (by omega)), h3.cg (by rw [ce (by omega)]) (ce (by omega)) (by rw [me (by omega)]) (me (by omega)), h4.cg (by rw [ce (by omega)]) (ce (by omega)) (by rw [me (by omega)]) (me (by omega)), h5.cg (by rw [ce (by omega)]) (ce (by omega)) (by rw [me (by omega)]) (me (by omega)), h6.cg (by rw [ce (by omega)]) (ce (by omega)) (ce (by omega)) (ce (by omega)) (ce (by omega)) (by rw [me (by omega)]) (me (by omega)) (me (by omega))⟩
  · rw [ce (by omega)]; exact n.2.2.1
  · rw [me (by omega)]; exact n.2.2.2
  · obtain ⟨a1, a2, a3, a4, a5, a6, a7⟩ := h1.k hi
    rw [ce (c := 5) (by omega), ce (c := 6) (by omega), ce (c := 7) (by omega), me (c := 26) (by omega), me (c := 27) (by omega), me (c := 28) (by omega), setA_at, e8, e9]
    refine ⟨a1, a2, a3, ?_⟩
    rcases (by omega : j = 0 ∨ j = 1) with rfl | rfl
    · rw [if_pos rfl, if_pos rfl]
      by_cases e : i = k
      · rw [e, pk_us, Nat.add_zero, pk_us, pk_un (by omega), ← e]
        exact ⟨ht, a5, rfl, a7⟩
      · rw [pk_un e, pk_un (by omega), pk_un (by omega)]
        exact ⟨a4, a5, a6, a7⟩
    · rw [if_neg (by omega), if_neg (by omega)]
      by_cases e : i = k
      · rw [e, pk_us, pk_us, pk_un (by omega), ← e]
        exact ⟨a4, ht, a6, rfl⟩
      · rw [pk_un e, pk_un (by omega), pk_un (by omega)]
        exact ⟨a4, a5, a6, a7⟩
  · rw [ce (c := 11) (by omega), me (c := 29) (by omega)]
    exact h1.2
theorem fAdd_at (a b : Int32) (hp : mm_Hp) : (fAddRow a b hp).1 13 = upd (hp.1 13) (rwN hp) a ∧ (fAddRow a b hp).1 14 = upd (hp.1 14) (rwN hp) b ∧ (fAddRow a b hp).1 3 = upd (hp.1 3) 3 (hp.1 3 3 + 1) := by
  unfold fAddRow
  refine ⟨?_, ?_, ?_⟩
  · dsimp only; rw [mm_up_n (by omega), mm_up_n (by omega), mm_up_s]
  · dsimp only; rw [mm_up_n (by omega), mm_up_s, mm_up_n (by omega)]
  · dsimp only; rw [mm_up_s, mm_up_n (by omega), mm_up_n (by omega)]
theorem fAdd_ne (a b : Int32) (hp : mm_Hp) {c : Nat} (h1 : c ≠ 3) (h2 : c ≠ 13) (h3 : c ≠ 14) : (fAddRow a b hp).1 c = hp.1 c := by
  unfold fAddRow
  dsimp only
  rw [mm_up_n h1, mm_up_n h3, mm_up_n h2]
theorem Rel_add {hc hm : mm_Hp} (R : Rel hc hm) {i j : Nat} (hi : i < 32) (hj : j < 32) (hn : rwN hc < 60) : Rel (fAddRow (nI i) (nI j) hc) (addM (nI i) (nI j) hm) := by
  obtain ⟨h1, h2, h3, h4, h5, h6⟩ := R
  have n := h2.n
  obtain ⟨a13, a14, a3⟩ := fAdd_at (nI i) (nI j) hc
  have ce : ∀ {c : Nat}, c ≠ 3 ∧ c ≠ 13 ∧ c ≠ 14 → (fAddRow (nI i) (nI j) hc).1 c = hc.1 c := fun h => fAdd_ne _ _ _ h.1 h.2.1 h.2.2
  have me : ∀ {c : Nat}, c ≠ 25 ∧ c ≠ 31 ∧ c ≠ 32 → (addM (nI i) (nI j) hm).1 c = hm.1 c := fun h => addM_ne _ _ _ h.1 h.2.1 h.2.2
  have zm : ∀ {q : Nat}, q ≠ 7 → (addM (nI i) (nI j) hm).1 25 q = hm.1 25 q := fun h => addM_25 _ _ _ h
  refine ⟨h1.cg (by rw [ce (by omega)]) (ce (by omega)) (ce (by omega)) (ce (by omega)) (ce (by omega)) (ce (by omega)) (ce (by omega)) (zm (by omega)) (me (by omega)) (me (by omega)) (me (by omega)) (me (by omega)) (me (by omega)), ⟨rwN hc + 1, by omega, ?_, ?_, fun k hk => ?_⟩, h3.cg (by rw [a3, pk_un (by omega)]) (ce (by omega)) (zm (by omega)) (me (by omega)), h4.cg (by rw [ce (by omega)]) (ce (by omega)) (zm (by omega)) (me (by omega)), h5.cg (by rw [ce (by omega)]) (ce (by omega)) (zm (by omega)) (me (by omega)), h6.cg (by rw [ce (by omega)]) (ce (by omega)) (ce (by omega)) (ce (by omega)) (ce (by omega)) (zm (by omega)) (me (by omega)) (me (by omega))⟩
  · rw [a3, pk_us, n.2.2.1, nI_1]
  · rw [addM_n, n.2.2.2, nI_1]
  · rw [a13, a14, addM_31, addM_32, n.2.1]
    by_cases e : k = rwN hc
    · rw [e, pk_us, pk_us, pk_us, pk_us]
      exact ⟨⟨i, hi, rfl, rfl⟩, j, hj, rfl, rfl⟩
    · rw [pk_un e, pk_un e, pk_un e, pk_un e]
      exact h2.k (by omega)
/-- the number of rows, lowered by one in both -/
theorem Rel_drop {hc hm : mm_Hp} (R : Rel hc hm) (h0 : 0 < rwN hc) : Rel (fDropRow hc) (setA hm 25 7 (hm.1 25 7 - 1)) := by
  obtain ⟨h1, h2, h3, h4, h5, h6⟩ := R
  have n := h2.n
  have hne : ¬ hc.1 3 3 ≤ 0 := by
    rw [n.2.2.1]
    intro q
    have := (nI_leI (b := 0) (by omega) (by omega)).mp q
    omega
  have ed : fDropRow hc = (mm_up hc.1 3 3 (hc.1 3 3 - 1), hc.2) := if_neg hne
  have d3 : (fDropRow hc).1 3 = upd (hc.1 3) 3 (hc.1 3 3 - 1) := by rw [ed]; exact mm_up_s (f := hc.1) (k := 3) (j := 3) (x := hc.1 3 3 - 1)
  have ce : ∀ {c : Nat}, c ≠ 3 → (fDropRow hc).1 c = hc.1 c := fun h => by rw [ed]; exact mm_up_n h
  have me : ∀ {c : Nat}, c ≠ 25 → (setA hm 25 7 (hm.1 25 7 - 1)).1 c = hm.1 c := fun h => setA_ne _ _ _ h
  have zm : ∀ {q : Nat}, q ≠ 7 → (setA hm 25 7 (hm.1 25 7 - 1)).1 25 q = hm.1 25 q := fun h => by rw [setA_at, pk_un h]
  refine ⟨h1.cg (by rw [ce (by omega)]) (ce (by omega)) (ce (by omega)) (ce (by omega)) (ce (by omega)) (ce (by omega)) (ce (by omega)) (zm (by omega)) (me (by omega)) (me (by omega)) (me (by omega)) (me (by omega)) (me (by omega)), ⟨rwN hc - 1, by omega, ?_, ?_, fun k hk => ?_⟩, h3.cg (by rw [d3, pk_un (by omega)]) (ce (by omega)) (zm (by omega)) (me (by omega)), h4.cg (by rw [ce (by omega)]) (ce (by omega)) (zm (by omega)) (me (by omega)), h5.cg (by rw [ce (by omega)]) (ce (by omega)) (zm (by omega)) (me (by omega)), h6.cg (by rw [ce (by omega)]) (ce (by omega)) (ce (by omega)) (ce (by omega)) (ce (by omega)) (zm (by omega)) (me (by omega)) (me (by omega))⟩
  · rw [d3, pk_us, n.2.2.1, show rwN hc = (rwN hc - 1) + 1 by omega, nI_pred]
    rfl
  · rw [setA_at, pk_us, n.2.2.2, show rwN hc = (rwN hc - 1) + 1 by omega, nI_pred]
    rfl
  · rw [ce (c := 13) (by omega), ce (c := 14) (by omega), me (c := 31) (by omega), me (c := 32) (by omega)]
    exact h2.k (by omega)
theorem Rel_keep {hc hm : mm_Hp} (R : Rel hc hm) : Rel hc (setA hm 25 7 (hm.1 25 7)) := by
  have e : setA hm 25 7 (hm.1 25 7) = hm := by
    rw [setA_as]
    have : upd (hm.1 25) 7 (hm.1 25 7) = hm.1 25 := by
      funext j
      by_cases q : j = 7
      · rw [q, pk_us]
      · rw [pk_un q]
    rw [this, sR_self]
  rw [e]
  exact R
theorem setA_self (hp : mm_Hp) (c i : Nat) : setA hp c i (hp.1 c i) = hp := by
  rw [setA_as]
  have : upd (hp.1 c) i (hp.1 c i) = hp.1 c := by
    funext j
    by_cases q : j = i
    · rw [q, pk_us]
    · rw [pk_un q]
  rw [this, sR_self]
/-! doubt -/
theorem doubt_same {hc hm : mm_Hp} (R : Rel hc hm) (c b : Int32) (hb : isB b) : (hDbM c b hm).1 25 0 = nI (xCoin c hc) ∧ (xCoin c hc = 0 → rDbM c b hm = (fDb c b hc).1) ∧ Rel (if xCoin c hc = 0 then (fDb c b hc).2 else hc) (hDbM c b hm) := by
  rcases coin_code R.1 c with ⟨a1, a2⟩ | ⟨a1, a2, k, hk, ek⟩
  · have g : gDb c hm = 1 := by unfold gDb; rw [a2]; rfl
    unfold hDbM rDbM
    rw [a1, g, if_neg (by decide), if_neg (by decide), if_neg (by decide)]
    exact ⟨setT_0 _ _, fun q => absurd q (by decide), R.thr _⟩
  · have g : gDb c hm = 0 := by unfold gDb; rw [a2]; rfl
    have n := R.1.n
    have hk8 : k < 80 := by omega
    have R0 := R.thr 0
    have ck : cN c = k := by rw [ek, cN_nI (by omega)]
    have e29 : hm.1 29 k = hc.1 11 k := R.1.dbt hk
    have hB := R.1.isB hk
    have R2 : Rel (setD c b hc) (setA (setT 0 hm) 29 k b) := by rw [ek]; exact Rel_setD R0 hk8 hb
    have M := may_same R2
    have t0 : ∀ v, (setA (setT 0 hm) 29 k v).1 25 0 = 0 := fun v => by rw [setA_ne _ _ _ (by omega), setT_0]
    have t1 : (hMay (setA (setT 0 hm) 29 k b)).1 25 0 = 0 := by rw [hMay_25 _ (by omega)]; exact t0 b
    have hck : c.toNatClampNeg = k := ck
    unfold hDbM rDbM fDbM fDb fDbG
    rw [a1, g, if_pos rfl, if_pos rfl, if_pos rfl, ck, hck, e29]
    by_cases q1 : hc.1 11 k = b
    · rw [if_pos q1, if_pos q1]
      dsimp only
      refine ⟨by rw [t0, nI_0], fun _ => rfl, ?_⟩
      have : setA (setT 0 hm) 29 k b = setT 0 hm := by
        have e : (setT 0 hm).1 29 k = b := by rw [setT_ne _ _ (by omega), e29]; exact q1
        rw [← e]; exact setA_self _ _ _
      rw [this]
      exact R0
    · rw [if_neg q1, if_neg q1]
      by_cases q2 : b = 0
      · rw [if_pos q2, if_pos q2]
        have h1 : hc.1 11 k = 1 := hB.elim (fun q => absurd (q.trans q2.symm) q1) id
        rcases M.1 with ⟨m1, m2⟩ | ⟨m1, m2⟩
        · rw [m1, m2, if_neg (show ¬ (1 : Int32) = 0 by decide), if_pos (show (0 : Int32) = 0 from rfl)]
          dsimp only
          exact ⟨by rw [t1, nI_0], fun _ => rfl, M.2⟩
        · rw [m1, m2, if_pos (show (0 : Int32) = 0 from rfl), if_neg (show ¬ (1 : Int32) = 0 by decide), h1]
          dsimp only
          refine ⟨by rw [setA_ne _ _ _ (by omega), t1, nI_0], fun _ => rfl, ?_⟩
          rw [ek]
          rw [ek] at M
          exact Rel_setD M.2 hk8 (Or.inr rfl)
      · rw [if_neg q2, if_neg q2]
        dsimp only
        exact ⟨by rw [t0, nI_0], fun _ => rfl, R2⟩
/-! wear -/
theorem side_code (s : Int32) : (xSide s = 1 ∧ fIs s = 0) ∨ (xSide s = 0 ∧ fIs s = 1 ∧ ∃ k, k < 2 ∧ s = nI k) := by
  unfold xSide fIs
  by_cases q : s = 0 ∨ s = 1
  · rw [if_pos q, if_pos q]
    refine Or.inr ⟨rfl, rfl, ?_⟩
    rcases q with q | q
    · exact ⟨0, by omega, q⟩
    · exact ⟨1, by omega, q⟩
  · rw [if_neg q, if_neg q]; exact Or.inl ⟨rfl, rfl⟩
theorem stage_code (t : Int32) : ((t < -1 ∨ 10 ≤ t) ∧ fWi t (-1) 9 = 0) ∨ (¬ (t < -1 ∨ 10 ≤ t) ∧ fWi t (-1) 9 = 1 ∧ stOk t) := by
  by_cases q : t < -1 ∨ 10 ≤ t
  · exact Or.inl ⟨q, (wi_stage t).mpr q⟩
  · refine Or.inr ⟨q, ?_, stOk_of (fun r => q (Or.inl r)) (nle_lt (fun r => q (Or.inr r)))⟩
    have : ¬ fWi t (-1) 9 = 0 := fun r => q ((wi_stage t).mp r)
    unfold fWi at this ⊢
    split
    · rename_i c; rw [if_pos c] at this; exact absurd rfl this
    · rfl
theorem szN_TR (hp : mm_Hp) : szN (hTR hp) = szN hp := by unfold szN; rw [hTR_ne _ (by omega) (by omega) (by omega) (by omega) (by omega) (by omega)]
theorem szN_setS (c s t : Int32) (hp : mm_Hp) : szN (setS c s t hp) = szN hp := by
  unfold szN setS
  split
  · rw [upn (by omega)]
  · rw [upn (by omega)]
theorem wear_same {hc hm : mm_Hp} (R : Rel hc hm) (c s t : Int32) : (hWrM c s t hm).1 25 0 = nI (xWr c s t hc) ∧ (xWr c s t hc = 0 → rWrM c s t hm = (fWr c s t hc).1) ∧ Rel (if xWr c s t hc = 0 then (fWr c s t hc).2 else hc) (hWrM c s t hm) := by
  have bad : ∀ x : Nat, 1 ≤ x → x ≤ 3 → xWr c s t hc = x → gWr c s t hm = nI x → (hWrM c s t hm).1 25 0 = nI (xWr c s t hc) ∧ (xWr c s t hc = 0 → rWrM c s t hm = (fWr c s t hc).1) ∧ Rel (if xWr c s t hc = 0 then (fWr c s t hc).2 else hc) (hWrM c s t hm) := fun x h1 h3 e1 e2 => by
    unfold hWrM
    rw [e1, e2, if_neg (nI_ne0 h1 (by omega)), if_neg (show ¬ x = 0 by omega)]
    exact ⟨setT_0 _ _, fun q => by omega, R.thr _⟩
  rcases coin_code R.1 c with ⟨a1, a2⟩ | ⟨a1, a2, k, hk, ek⟩
  · exact bad 1 (by omega) (by omega) (by unfold xWr; rw [a1, if_neg (by decide)]) (by unfold gWr; rw [a2, if_pos rfl]; rfl)
  · rcases side_code s with ⟨b1, b2⟩ | ⟨b1, b2, j, hj, ej⟩
    · exact bad 1 (by omega) (by omega) (by unfold xWr; rw [a1, b1, if_pos rfl, if_neg (by decide)]) (by unfold gWr; rw [a2, b2, if_neg (by decide), if_pos rfl]; rfl)
    · rcases stage_code t with ⟨d1, d2⟩ | ⟨d1, d2, d3⟩
      · exact bad 2 (by omega) (by omega) (by unfold xWr; rw [a1, b1, if_pos rfl, if_pos rfl, if_pos d1]) (by unfold gWr; rw [a2, b2, d2, if_neg (by decide), if_neg (by decide)]; rfl)
      · have x0 : xWr c s t hc = 0 := by unfold xWr; rw [a1, b1, if_pos rfl, if_pos rfl, if_neg d1]
        have g0 : gWr c s t hm = 0 := by unfold gWr; rw [a2, b2, d2, if_neg (by decide), if_neg (by decide)]; rfl
        have n := R.1.n
        have R0 := R.thr 0
        have ck : cN c = k := by rw [ek, cN_nI (by omega)]
        have cj : cN s = j := by rw [ej, cN_nI (by omega)]
        have R2 : Rel (setS c s t hc) (setA (setT 0 hm) 30 (2 * k + j) t) := by rw [ek, ej]; exact Rel_setS R0 hk hj d3
        have M := may_same R2
        have t1 : (hMay (setA (setT 0 hm) 30 (2 * k + j) t)).1 25 0 = 0 := by rw [hMay_25 _ (by omega), setA_ne _ _ _ (by omega), setT_0]
        have hold : hm.1 30 (2 * k + j) = getS c s hc ∧ stOk (getS c s hc) := by
          obtain ⟨_, _, _, s1, s2, s3, s4⟩ := R.1.k hk
          unfold getS
          have : c.toNatClampNeg = k := ck
          rw [this]
          rcases (by omega : j = 0 ∨ j = 1) with rfl | rfl
          · rw [if_pos (show s = 0 from ej)]; exact ⟨s3, s1⟩
          · rw [if_neg (by rw [ej]; decide)]; exact ⟨s4, s2⟩
        unfold hWrM rWrM fWrM fWr fWrG
        rw [x0, g0, if_pos rfl, if_pos rfl, if_pos rfl, ck, cj]
        rcases M.1 with ⟨m1, m2⟩ | ⟨m1, m2⟩
        · rw [m1, m2, if_neg (show ¬ (1 : Int32) = 0 by decide), if_pos (show (0 : Int32) = 0 from rfl)]
          dsimp only
          exact ⟨by rw [t1, nI_0], fun _ => rfl, M.2⟩
        · rw [m1, m2, if_pos (show (0 : Int32) = 0 from rfl), if_neg (show ¬ (1 : Int32) = 0 by decide), hold.1]
          dsimp only
          refine ⟨by rw [setA_ne _ _ _ (by omega), t1, nI_0], fun _ => rfl, ?_⟩
          have hk2 : k < szN (hTR (setS c s t hc)) := by rw [szN_TR, szN_setS]; exact hk
          have := Rel_setS M.2 hk2 hj hold.2
          rw [← ek, ← ej] at this
          exact this
/-! row -/
theorem rwN_TR (hp : mm_Hp) : rwN (hTR hp) = rwN hp := by unfold rwN; rw [hTR_3 _ (by omega)]
theorem row_same {hc hm : mm_Hp} (R : Rel hc hm) (a b : Int32) : (hRwM a b hm).1 25 0 = nI (xRw a b hc) ∧ (xRw a b hc = 0 → rRwM a b hm = (fRw a b hc).1) ∧ Rel (if xRw a b hc = 0 then (fRw a b hc).2 else hc) (hRwM a b hm) := by
  have bad : ∀ x : Nat, 1 ≤ x → x ≤ 3 → xRw a b hc = x → gRw a b hm = nI x → (hRwM a b hm).1 25 0 = nI (xRw a b hc) ∧ (xRw a b hc = 0 → rRwM a b hm = (fRw a b hc).1) ∧ Rel (if xRw a b hc = 0 then (fRw a b hc).2 else hc) (hRwM a b hm) := fun x h1 h3 e1 e2 => by
    unfold hRwM
    rw [e1, e2, if_neg (nI_ne0 h1 (by omega)), if_neg (show ¬ x = 0 by omega)]
    exact ⟨setT_0 _ _, fun q => by omega, R.thr _⟩
  have n := R.2.1.n
  rcases ord_code a b with ⟨a1, a2⟩ | ⟨a1, a2⟩ | ⟨a1, a2, i, j, hi, hj, ei, ej⟩
  · exact bad 1 (by omega) (by omega) (by unfold xRw; rw [a1, if_neg (by decide)]) (by unfold gRw; rw [a2]; rfl)
  · exact bad 2 (by omega) (by omega) (by unfold xRw; rw [a1, if_neg (by decide)]) (by unfold gRw; rw [a2]; rfl)
  · by_cases q : 60 ≤ rwN hc
    · have l1 : 60 ≤ hc.1 3 3 := by rw [n.2.2.1]; exact (nI_leI (a := 60) (by omega) (by omega)).mpr q
      have l2 : 60 ≤ hm.1 25 7 := by rw [n.2.2.2]; exact (nI_leI (a := 60) (by omega) (by omega)).mpr q
      exact bad 3 (by omega) (by omega) (by unfold xRw; rw [a1, if_pos rfl, if_pos l1]) (by unfold gRw; rw [a2, if_pos l2, if_pos rfl]; rfl)
    · have l1 : ¬ 60 ≤ hc.1 3 3 := by rw [n.2.2.1]; exact fun r => q ((nI_leI (a := 60) (by omega) (by omega)).mp r)
      have l2 : ¬ 60 ≤ hm.1 25 7 := by rw [n.2.2.2]; exact fun r => q ((nI_leI (a := 60) (by omega) (by omega)).mp r)
      have x0 : xRw a b hc = 0 := by unfold xRw; rw [a1, if_pos rfl, if_neg l1]
      have g0 : gRw a b hm = 0 := by unfold gRw; rw [a2, if_neg l2, if_neg (by decide)]
      have R0 := R.thr 0
      have R2 : Rel (fAddRow a b hc) (addM a b (setT 0 hm)) := by rw [ei, ej]; exact Rel_add R0 hi hj (by omega)
      have M := may_same R2
      have t1 : (hMay (addM a b (setT 0 hm))).1 25 0 = 0 := by rw [hMay_25 _ (by omega), addM_25 _ _ _ (by omega), setT_0]
      have h0 : 0 < rwN (hTR (fAddRow a b hc)) := by
        have := R2.2.1.n
        rw [rwN_TR]
        have e : rwN (fAddRow a b hc) = rwN hc + 1 := by
          unfold rwN
          rw [(fAdd_at a b hc).2.2, pk_us, n.2.2.1, nI_1, nIc (by omega), nIc (by omega)]
        omega
      unfold hRwM rRwM fRwM fRw fRwG
      rw [x0, g0, if_pos rfl, if_pos rfl, if_pos rfl]
      rcases M.1 with ⟨m1, m2⟩ | ⟨m1, m2⟩
      · rw [m1, m2, if_neg (show ¬ (1 : Int32) = 0 by decide), if_pos (show (0 : Int32) = 0 from rfl)]
        dsimp only
        refine ⟨?_, fun _ => rfl, Rel_keep M.2⟩
        rw [setA_at, pk_un (by omega), t1, nI_0]
      · rw [m1, m2, if_pos (show (0 : Int32) = 0 from rfl), if_neg (show ¬ (1 : Int32) = 0 by decide)]
        dsimp only
        refine ⟨?_, fun _ => rfl, Rel_drop M.2 h0⟩
        rw [setA_at, pk_un (by omega), t1, nI_0]
