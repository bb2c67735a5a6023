/-! chain, chains, count, linked, mean: alike -/
theorem Rel.frm {hc hm : mm_Hp} (R : Rel hc hm) (hc' hm' : mm_Hp) (e : ∀ c, c ≠ 2 → c ≠ 12 → hc'.1 c = hc.1 c) (f : ∀ c, c ≠ 25 → c ≠ 37 → c ≠ 38 → hm'.1 c = hm.1 c) (z : ∀ j, j ≠ 0 → j ≠ 24 → j ≠ 25 → hm'.1 25 j = hm.1 25 j) : Rel hc' hm' := by
  obtain ⟨h1, h2, h3, h4, h5, h6⟩ := R
  have ce : ∀ {c : Nat}, c ≠ 2 ∧ c ≠ 12 → hc'.1 c = hc.1 c := fun h => e _ h.1 h.2
  have me : ∀ {c : Nat}, c ≠ 25 ∧ c ≠ 37 ∧ c ≠ 38 → hm'.1 c = hm.1 c := fun h => f _ h.1 h.2.1 h.2.2
  have zm : ∀ {j : Nat}, j ≠ 0 ∧ j ≠ 24 ∧ j ≠ 25 → hm'.1 25 j = hm.1 25 j := fun h => z _ h.1 h.2.1 h.2.2
  exact ⟨h1.cg (by rw [ce (by omega)]) (ce (by omega)) (ce (by omega)) (ce (by omega)) (ce (by omega)) (ce (by omega)) (ce (by omega)) (zm (by omega)) (me (by omega)) (me (by omega)) (me (by omega)) (me (by omega)) (me (by omega)), h2.cg (by rw [ce (by omega)]) (ce (by omega)) (ce (by omega)) (zm (by omega)) (me (by omega)) (me (by omega)), h3.cg (by rw [ce (by omega)]) (ce (by omega)) (zm (by omega)) (me (by omega)), h4.cg (by rw [ce (by omega)]) (ce (by omega)) (zm (by omega)) (me (by omega)), h5.cg (by rw [ce (by omega)]) (ce (by omega)) (zm (by omega)) (me (by omega)), h6.cg (by rw [ce (by omega)]) (ce (by omega)) (ce (by omega)) (ce (by omega)) (ce (by omega)) (zm (by omega)) (me (by omega)) (me (by omega))⟩
theorem hBld_ne (hp : mm_Hp) {c : Nat} (h1 : c ≠ 2) (h2 : c ≠ 12) : (hBuild hp).1 c = hp.1 c := by
  unfold hBuild
  rw [sR_ne h2, sR_ne h1]
theorem Rel.bld {hc hm : mm_Hp} (R : Rel hc hm) : Rel (hBuild hc) (hLi (setT 0 hm)) :=
  R.frm _ _ (fun c h1 h2 => hBld_ne hc h1 h2) (fun c h1 h2 h3 => by rw [hLi_ne _ h2, setT_ne _ _ h1]) (fun j h1 h2 h3 => by rw [hLi_ne _ (by omega), setT_25 _ _ h1])
theorem labM_same {hc hm : mm_Hp} (h : Rel1 hc hm) {d : Nat} (hd : d < 32) : labM hm d = (fBuild hc).2 d := lab_same h (hm.1 37) hd
theorem chain_same {hc hm : mm_Hp} (R : Rel hc hm) (d : Int32) : (hChM d hm).1 25 0 = nI (xDie d) ∧ (xDie d = 0 → rChM d hm = (fBuild hc).2 (cN d)) ∧ Rel (if xDie d = 0 then hBuild hc else hc) (hChM d hm) := by
  unfold hChM rChM
  rcases die_code d with ⟨a1, a2⟩ | ⟨a1, a2, k, hk, ek⟩
  · have g : gCh d = 1 := by unfold gCh; rw [a2]; rfl
    rw [a1, g, if_neg (by decide), if_neg (by decide), if_neg (by decide)]
    exact ⟨setT_0 _ _, fun q => absurd q (by decide), R.thr _⟩
  · have g : gCh d = 0 := by unfold gCh; rw [a2]; rfl
    rw [a1, g, if_pos rfl, if_pos rfl, if_pos rfl]
    refine ⟨by rw [hLi_ne _ (by omega), setT_0, nI_0], fun _ => ?_, R.bld⟩
    rw [ek, cN_nI (by omega)]
    exact labM_same R.1 hk
theorem isF_iff (du fr g : Nat → Int32) (d : Nat) : ∀ n, ¬ isF du fr g d n = 0 ↔ ∃ k, k < n ∧ du k = 0 ∧ g (cN (fr k)) = nI d
  | 0 => ⟨fun h => absurd rfl h, fun ⟨k, hk, _⟩ => absurd hk (Nat.not_lt_zero k)⟩
  | n + 1 => by
    have ih := isF_iff du fr g d n
    show ¬ bIs du fr g d n (isF du fr g d n) = 0 ↔ _
    unfold bIs
    by_cases q : isF du fr g d n = 0
    · rw [if_pos q]
      have hn : ¬ ∃ k, k < n ∧ du k = 0 ∧ g (cN (fr k)) = nI d := fun r => (ih.mpr r) q
      by_cases q1 : du n = 0
      · rw [if_pos q1]
        by_cases q2 : g (cN (fr n)) = nI d
        · rw [if_pos q2]
          exact ⟨fun _ => ⟨n, by omega, q1, q2⟩, fun _ => by decide⟩
        · rw [if_neg q2]
          refine ⟨fun h => absurd rfl h, fun ⟨k, hk, e1, e2⟩ => ?_⟩
          by_cases e : k = n
          · rw [e] at e2; exact absurd e2 q2
          · exact absurd ⟨k, by omega, e1, e2⟩ hn
      · rw [if_neg q1]
        refine ⟨fun h => absurd rfl h, fun ⟨k, hk, e1, e2⟩ => ?_⟩
        by_cases e : k = n
        · rw [e] at e1; exact absurd e1 q1
        · exact absurd ⟨k, by omega, e1, e2⟩ hn
    · rw [if_neg q]
      obtain ⟨k, hk, r⟩ := ih.mp q
      exact ⟨fun _ => ⟨k, by omega, r⟩, fun _ => by decide⟩
theorem chains_same {hc hm : mm_Hp} (R : Rel hc hm) : rCsM hm = fChs (fBuild hc) ∧ Rel (hBuild hc) (hCsM hm) := by
  refine ⟨?_, R.bld⟩
  have n := R.1.n
  unfold rCsM fChs
  refine lp_same (fun d a hd => ?_)
  unfold bCs bChs
  have key : ¬ isF (hm.1 29) (hm.1 26) (labM hm) d (mszN hm) = 0 ↔ ((fBuild hc).2 d = nI d ∧ qb (fBuild hc).1 d = true) := by
    rw [isF_iff, chain_has R.1.cn hd, n.2.1]
    constructor
    · rintro ⟨k, hk, e1, e2⟩
      refine ⟨k, hk, by rw [← R.1.dbt hk]; exact e1, ?_⟩
      obtain ⟨⟨f, hf, e3, e4⟩, _⟩ := R.1.k hk
      rw [e4, cN_nI (by omega), labM_same R.1 (by omega)] at e2
      rw [e3, cN_nI (by omega)]
      exact e2
    · rintro ⟨k, hk, e1, e2⟩
      refine ⟨k, hk, by rw [R.1.dbt hk]; exact e1, ?_⟩
      obtain ⟨⟨f, hf, e3, e4⟩, _⟩ := R.1.k hk
      rw [e3, cN_nI (by omega)] at e2
      rw [e4, cN_nI (by omega), labM_same R.1 (by omega)]
      exact e2
  by_cases q : isF (hm.1 29) (hm.1 26) (labM hm) d (mszN hm) = 0
  · rw [if_pos q]
    have hn : ¬ ((fBuild hc).2 d = nI d ∧ qb (fBuild hc).1 d = true) := fun r => (key.mpr r) q
    by_cases q1 : (fBuild hc).2 d = nI d
    · rw [if_pos q1]
      have : bitAt (fBuild hc).1 (nI d) = 0 := by
        rw [bitAt_eq hd]
        cases e : qb (fBuild hc).1 d
        · rfl
        · exact absurd ⟨q1, e⟩ hn
      rw [if_pos this]
    · rw [if_neg q1]
  · rw [if_neg q]
    obtain ⟨q1, q2⟩ := key.mp q
    rw [if_pos q1, if_neg ((bitAt_ne hd).mpr q2)]
/-! count -/
theorem cnt1_same {f g : Nat → Int32} {n : Nat} (h : ∀ k, k < n → f k = g k) : cnt1 f n = cnt1 g n := by
  unfold cnt1
  exact lp_same (fun k a hk => by rw [h k hk])
theorem count_same {hc hm : mm_Hp} (R : Rel hc hm) (w : Int32) : (hCtM w hm).1 25 0 = nI (xCt w) ∧ (xCt w = 0 → rCtM w hm = fCt w hc) ∧ Rel hc (hCtM w hm) := by
  have n := R.1.n
  have m := R.2.1.n
  obtain ⟨⟨h, hh, eh1, eh2⟩, _⟩ := R.2.2.2.1
  obtain ⟨t, ht, et1, et2, _⟩ := R.2.2.2.2.1
  obtain ⟨r, hr, er1, er2, _⟩ := R.2.2.2.2.2
  have g : gCt w = nI (xCt w) := by
    unfold gCt xCt fGo
    have i0 : w < 0 ↔ w.toInt < 0 := by rw [i_lt]; rfl
    have i5 : 5 < w ↔ 5 < w.toInt := by rw [i_lt]; rfl
    by_cases q : w.toInt < 0 ∨ 5 < w.toInt
    · rw [if_pos q, if_pos ((wi_0 w 0 5).mpr (by rw [i0, i5]; exact q))]; rfl
    · rw [if_neg q, if_neg (fun r => q (by have := (wi_0 w 0 5).mp r; rw [i0, i5] at this; exact this))]; rfl
  unfold hCtM rCtM
  rw [g]
  refine ⟨setT_0 _ _, fun q => ?_, R.thr _⟩
  rw [q, if_pos nI_0]
  unfold fCtM fCt
  rw [n.2.2.1, n.2.2.2, m.2.2.1, m.2.2.2, eh1, eh2, et1, et2, er1, er2, n.2.1, cnt1_same (fun k hk => R.1.dbt hk)]
/-! linked -/
theorem fLkF_same {f g : Nat → Int32} {k : Int32} : ∀ {n i : Nat} {a : Int32}, (∀ j, i ≤ j → j < i + n → (f j = 0 ↔ g j = 0)) → fLkF f k n i a = fLkF g k n i a
  | 0, i, a, _ => rfl
  | n + 1, i, a, h => by
    unfold fLkF
    have h0 := h i (by omega) (by omega)
    by_cases q : f i = 0
    · rw [if_pos q, if_pos (h0.mp q), fLkF_same (fun j h1 h2 => h j (by omega) (by omega))]
    · rw [if_neg q, if_neg (fun r => q (h0.mpr r)), fLkF_same (fun j h1 h2 => h j (by omega) (by omega))]
theorem linked_same {hc hm : mm_Hp} (R : Rel hc hm) (c k : Int32) : (hLkM c k hm).1 25 0 = nI (xLk c k hc) ∧ (xLk c k hc = 0 → rLkM c k hm = fLk c k hc) ∧ Rel hc (hLkM c k hm) := by
  have n := R.1.n
  unfold hLkM rLkM
  rcases coin_code R.1 c with ⟨a1, a2⟩ | ⟨a1, a2, i, hi, ei⟩
  · have x : xLk c k hc = 1 := by unfold xLk; rw [a1, if_neg (by decide)]
    have g : gLk c k hm = 1 := by unfold gLk; rw [a2, if_pos rfl]; rfl
    rw [x, g]
    exact ⟨setT_0 _ _, fun q => absurd q (by decide), R.thr _⟩
  · by_cases q : k < 0
    · have x : xLk c k hc = 1 := by unfold xLk xPlace; rw [a1, if_pos rfl, if_neg (lt_nge q)]
      have g : gLk c k hm = 1 := by unfold gLk; rw [a2, if_neg (by decide), if_pos q]; rfl
      rw [x, g]
      exact ⟨setT_0 _ _, fun q => absurd q (by decide), R.thr _⟩
    · have x : xLk c k hc = 0 := by unfold xLk xPlace; rw [a1, if_pos rfl, if_pos (nlt_ge q)]
      have g : gLk c k hm = 0 := by unfold gLk; rw [a2, if_neg (by decide), if_neg q]; rfl
      rw [x, g, if_pos rfl]
      refine ⟨by rw [setT_0, nI_0], fun _ => ?_, R.thr _⟩
      unfold fLk
      rw [n.2.1]
      refine fLkF_same (fun j _ hj => ?_)
      have hj : j < szN hc := by omega
      have cc : cN c = i := by rw [ei, cN_nI (by omega)]
      have tc : c.toNatClampNeg = i := cc
      have tj : (nI j).toNatClampNeg = j := nIc (by omega)
      unfold lkM fC_areLinked
      rw [cc, tc, tj, R.1.dbt hi, R.1.dbt hj, R.1.front hi, R.1.front hj, R.1.back hi, R.1.back hj]
      by_cases p1 : nI j = c
      · rw [if_pos p1, if_pos (Or.inl p1.symm)]
      · rw [if_neg p1]
        by_cases p2 : hc.1 11 j = 0
        · rw [if_pos p2]
          by_cases p3 : hc.1 11 i = 0
          · rw [if_pos p3]
            by_cases p4 : hc.1 5 j = hc.1 5 i
            · rw [if_pos p4, if_neg (fun r => by
                rcases r with r | r | r | r
                · exact p1 r.symm
                · exact r p3
                · exact r p2
                · exact r.1 p4.symm)]
            · rw [if_neg p4]
              by_cases p5 : hc.1 6 j = hc.1 6 i
              · rw [if_pos p5, if_neg (fun r => by
                  rcases r with r | r | r | r
                  · exact p1 r.symm
                  · exact r p3
                  · exact r p2
                  · exact r.2 p5.symm)]
              · rw [if_neg p5, if_pos (Or.inr (Or.inr (Or.inr ⟨fun r => p4 r.symm, fun r => p5 r.symm⟩)))]
          · rw [if_neg p3, if_pos (Or.inr (Or.inl p3))]
        · rw [if_neg p2, if_pos (Or.inr (Or.inr (Or.inl p2)))]
/-! mean -/
theorem mm_0 {du fr gr lb : Nat → Int32} {l : Int32} : ∀ {n : Nat}, n ≤ 80 → (∀ k, k < n → ∃ w, w ≤ 1000000 ∧ gr k = nI w) → (lp (bMm du fr gr lb l) n (0, 0)).2 = 0 → (lp (bMm du fr gr lb l) n (0, 0)).1 = 0
  | 0, _, _, _ => rfl
  | n + 1, hn, h, e => by
    have ih := mm_0 (du := du) (fr := fr) (gr := gr) (lb := lb) (l := l) (n := n) (by omega) (fun k hk => h k (by omega))
    obtain ⟨A, C, hA, hC, eq⟩ := mm_nI (du := du) (fr := fr) (gr := gr) (lb := lb) (l := l) (n := n) (fun k hk => h k (by omega))
    have e : (bMm du fr gr lb l n (lp (bMm du fr gr lb l) n (0, 0))).2 = 0 := e
    show (bMm du fr gr lb l n (lp (bMm du fr gr lb l) n (0, 0))).1 = 0
    unfold bMm at e ⊢
    by_cases q1 : du n = 0
    · rw [if_pos q1] at e ⊢
      by_cases q2 : lb (cN (fr n)) = l
      · rw [if_pos q2] at e
        exfalso
        have e : (lp (bMm du fr gr lb l) n (0, 0)).2 + 1 = 0 := e
        rw [eq] at e
        have e : nI C + 1 = 0 := e
        rw [nI_1] at e
        exact nI_ne0 (by omega) (by omega) e
      · rw [if_neg q2] at e ⊢
        exact ih e
    · rw [if_neg q1] at e ⊢
      exact ih e
theorem mean_same {hc hm : mm_Hp} (R : Rel hc hm) (d p : Int32) : (hMnM d p hm).1 25 0 = nI (xMn d p) ∧ (xMn d p = 0 → rMnM d p hm = fMn d p hc) ∧ Rel (if xMn d p = 0 then hBuild hc else hc) (hMnM d p hm) := by
  have n := R.1.n
  unfold hMnM rMnM
  rcases die_code d with ⟨a1, a2⟩ | ⟨a1, a2, i, hi, ei⟩
  · have x : xMn d p = 1 := by unfold xMn; rw [a1, if_neg (by decide)]
    have g : gMn d p = 1 := by unfold gMn; rw [a2, if_pos rfl]; rfl
    rw [x, g, if_neg (by decide), if_neg (by decide), if_neg (by decide)]
    exact ⟨setT_0 _ _, fun q => absurd q (by decide), R.thr _⟩
  · rcases side_code p with ⟨b1, b2⟩ | ⟨b1, b2, j, hj, ej⟩
    · have x : xMn d p = 1 := by unfold xMn; rw [a1, b1, if_pos rfl]
      have g : gMn d p = 1 := by unfold gMn; rw [a2, b2, if_neg (by decide), if_pos rfl]; rfl
      rw [x, g, if_neg (by decide), if_neg (by decide), if_neg (by decide)]
      exact ⟨setT_0 _ _, fun q => absurd q (by decide), R.thr _⟩
    · have x : xMn d p = 0 := by unfold xMn; rw [a1, b1, if_pos rfl]
      have g : gMn d p = 0 := by unfold gMn; rw [a2, b2, if_neg (by decide), if_neg (by decide)]; rfl
      rw [x, g, if_pos rfl, if_pos rfl, if_pos rfl]
      have hls : ∀ a b h, (lsN a b h).1 25 0 = h.1 25 0 := fun a b h => by
        unfold lsN
        dsimp only
        rw [mm_up_s, pk_un (by omega), mm_up_s, pk_un (by omega)]
      have hls2 : ∀ a b h {c : Nat}, c ≠ 25 → (lsN a b h).1 c = h.1 c := fun a b h c hc => by
        unfold lsN
        dsimp only
        rw [mm_up_n hc, mm_up_n hc]
      have hls3 : ∀ a b h {q : Nat}, q ≠ 24 → q ≠ 25 → (lsN a b h).1 25 q = h.1 25 q := fun a b h q h1 h2 => by
        unfold lsN
        dsimp only
        rw [mm_up_s, pk_un h2, mm_up_s, pk_un h1]
      refine ⟨by rw [hls, hLi_ne _ (by omega), setT_0, nI_0], fun _ => ?_, R.frm _ _ (fun c h1 h2 => hBld_ne hc h1 h2) (fun c h1 h2 h3 => by rw [hls2 _ _ _ h1, hLi_ne _ h2, setT_ne _ _ h1]) (fun q h1 h2 h3 => by rw [hls3 _ _ _ h2 h3, hLi_ne _ (by omega), setT_25 _ _ h1])⟩
      have cd : cN d = i := by rw [ei, cN_nI (by omega)]
      have td : d.toNatClampNeg = i := cd
      have hgr : ∀ k, k < szN hc → ∃ w, w ≤ 1000000 ∧ hm.1 28 k = nI w := fun k hk => by
        obtain ⟨_, _, ⟨w, _, hw, _, e⟩, _⟩ := R.1.k hk
        exact ⟨w, hw, e⟩
      have hfold : mnF d hm = lp (bMn hc (fBuild hc).2 ((fBuild hc).2 i)) (szN hc) (0, 0) := by
        unfold mnF
        rw [n.2.1, cd, labM_same R.1 hi]
        refine lp_same (fun k q hk => ?_)
        unfold bMm bMn
        obtain ⟨⟨f, hf, e3, e4⟩, _⟩ := R.1.k hk
        rw [R.1.dbt hk, R.1.gram hk, e4, cN_nI (by omega), labM_same R.1 (by omega), e3, nIc (by omega)]
      unfold fMn eMn
      rw [td, ← hfold]
      have hz : (mnF d hm).2 = 0 → (mnF d hm).1 = 0 := by
        unfold mnF
        rw [n.2.1]
        exact mm_0 n.1 hgr
      obtain ⟨A, C, hA, hC, e⟩ := mm_nI (du := hm.1 29) (fr := hm.1 26) (gr := hm.1 28) (lb := labM hm) (l := labM hm (cN d)) (n := szN hc) hgr
      have e : mnF d hm = (nI A, nI C) := by unfold mnF; rw [n.2.1]; exact e
      rw [e] at hz ⊢
      have hA2 : A ≤ 80000000 := Nat.le_trans hA (Nat.mul_le_mul_right 1000000 n.1)
      have cA : cN (nI A) = A := nI_clamp (by omega)
      dsimp only at hz ⊢
      by_cases q : nI C = 0
      · have one : one0 (nI C) = nI 1 := if_pos q
        rw [one, if_pos q, hz q, fLess_01]
        rfl
      · have one : one0 (nI C) = nI C := if_neg q
        rw [one, if_neg q, fLess_ok (by omega) (by omega), cA, cN_nI (by omega)]
