/-! unit, rule, type: alike -/
theorem app_tk {w : Int32} {t : Nat} {g g' : Nat → Int32} (h : ∀ k, k < t → g' k = g k) (ht : t + cntW w 4 ≤ 40) : ∀ n, n ≤ 4 → (lp (bApp w) n (t, g)).1 = t + cntW w n ∧ ∀ k, k < t + cntW w n → (lp (bTk w) n (t, g')).2 k = (lp (bApp w) n (t, g)).2 k
  | 0, _ => ⟨rfl, h⟩
  | n + 1, hn => by
    obtain ⟨i1, i2⟩ := app_tk h ht n (by omega)
    have j1 : (lp (bTk w) n (t, g')).1 = t + cntW w n := bTk_cnt w (t, g') n
    have hm := cntW_mono w n (4 - n)
    have hm2 := cntW_mono w (n + 1) (4 - (n + 1))
    rw [show n + (4 - n) = 4 by omega] at hm
    rw [show n + 1 + (4 - (n + 1)) = 4 by omega] at hm2
    show (bApp w n (lp (bApp w) n (t, g))).1 = t + (if byteAt w n = 0 then cntW w n else cntW w n + 1) ∧ ∀ k, k < t + (if byteAt w n = 0 then cntW w n else cntW w n + 1) → (bTk w n (lp (bTk w) n (t, g'))).2 k = (bApp w n (lp (bApp w) n (t, g))).2 k
    have hc : cntW w (n + 1) = if byteAt w n = 0 then cntW w n else cntW w n + 1 := rfl
    rw [hc] at hm2
    generalize lp (bApp w) n (t, g) = x at i1 i2
    generalize lp (bTk w) n (t, g') = y at j1 i2
    unfold bApp bTk
    by_cases q : byteAt w n = 0
    · rw [if_pos q, if_pos q, if_pos q]
      exact ⟨i1, i2⟩
    · rw [if_neg q] at hm2
      rw [if_neg q, if_neg q, if_neg q, if_neg (by omega), i1, j1]
      refine ⟨by show t + cntW w n + 1 = _; omega, fun k hk => ?_⟩
      show upd y.2 (t + cntW w n) (byteAt w n) k = upd x.2 (t + cntW w n) (byteAt w n) k
      by_cases e : k = t + cntW w n
      · rw [e, pk_us, pk_us]
      · rw [pk_un e, pk_un e]
        exact i2 k (by omega)
theorem Rel_app {hc hm : mm_Hp} (R : Rel hc hm) {t : Nat} (e1 : hc.1 4 2 = nI t) (w : Int32) (ht : t + cntW w 4 ≤ 40) : Rel (hApp w hc) (hTk w hm) ∧ (hApp w hc).1 4 2 = nI (t + cntW w 4) ∧ (hTk w hm).1 25 0 = hm.1 25 0 := by
  obtain ⟨h1, h2, h3, h4, h5, h6⟩ := R
  obtain ⟨t', ht', f1, f2, f3⟩ := h5
  have ett : t' = t := by rw [e1] at f1; exact ((nI_eq (by omega) (by omega)).mp f1).symm
  subst ett
  have hx : txN hc = t' := by unfold txN; rw [f1, nIc (by omega)]
  obtain ⟨a1, a2⟩ := app_tk (g := hc.1 20) (g' := hm.1 40) f3 ht 4 (Nat.le_refl _)
  have ef : fApp w hc = lp (bApp w) 4 (t', hc.1 20) := by unfold fApp; rw [hx]
  have c4 : (hApp w hc).1 4 = upd (hc.1 4) 2 (nI (t' + cntW w 4)) := by unfold hApp; rw [sR_ne (by omega), sR_at, ef, a1]
  have c20 : (hApp w hc).1 20 = (lp (bApp w) 4 (t', hc.1 20)).2 := by unfold hApp; rw [sR_at, ef]
  have ce : ∀ {c : Nat}, c ≠ 4 ∧ c ≠ 20 → (hApp w hc).1 c = hc.1 c := fun h => by unfold hApp; rw [sR_ne h.2, sR_ne h.1]
  have ht2 : (hm.1 25 19).toNatClampNeg = t' := by rw [f2, nIc (by omega)]
  have m25 : (hTk w hm).1 25 = upd (hm.1 25) 19 (nI (t' + cntW w 4)) := by unfold hTk; rw [sR_ne (by omega), sR_at, ht2, bTk_cnt]
  have m40 : (hTk w hm).1 40 = (lp (bTk w) 4 (t', hm.1 40)).2 := by unfold hTk; rw [sR_at, ht2]
  have me : ∀ {c : Nat}, c ≠ 25 ∧ c ≠ 40 → (hTk w hm).1 c = hm.1 c := fun h => by unfold hTk; rw [sR_ne h.2, sR_ne h.1]
  have zm : ∀ {j : Nat}, j ≠ 19 → (hTk w hm).1 25 j = hm.1 25 j := fun h => by rw [m25, pk_un h]
  refine ⟨⟨h1.cg (by rw [ce (by omega)]) (ce (by omega)) (ce (by omega)) (ce (by omega)) (ce (by omega)) (ce (by omega)) (ce (by omega)) (zm (by omega)) (me (by omega)) (me (by omega)) (me (by omega)) (me (by omega)) (me (by omega)), h2.cg (by rw [ce (by omega)]) (ce (by omega)) (ce (by omega)) (zm (by omega)) (me (by omega)) (me (by omega)), h3.cg (by rw [ce (by omega)]) (ce (by omega)) (zm (by omega)) (me (by omega)), h4.cg (by rw [ce (by omega)]) (ce (by omega)) (zm (by omega)) (me (by omega)), ⟨t' + cntW w 4, ht, by rw [c4, pk_us], by rw [m25, pk_us], fun k hk => by rw [m40, c20]; exact a2 k hk⟩, h6.cg (by rw [c4, pk_un (by omega)]) (ce (by omega)) (ce (by omega)) (ce (by omega)) (ce (by omega)) (zm (by omega)) (me (by omega)) (me (by omega))⟩, by rw [c4, pk_us], zm (by omega)⟩
theorem unit_same {hc hm : mm_Hp} (R : Rel hc hm) (a b c d : Int32) : (hUnM a b c d hm).1 25 0 = (if xUn a b c d hc = 0 then 0 else 1) ∧ (xUn a b c d hc = 0 → rUnM a b c d hm = (hUn a b c d hc).1 4 2) ∧ Rel (if xUn a b c d hc = 0 then hUn a b c d hc else hc) (hUnM a b c d hm) := by
  obtain ⟨t, ht, e1, e2, _⟩ := R.2.2.2.2.1
  have la := cntW_le a 4
  have lb := cntW_le b 4
  have lc := cntW_le c 4
  have ld := cntW_le d 4
  have sm : hc.1 4 2 + (fSigns a + fSigns b + fSigns c + fSigns d) = nI (t + cntW a 4 + cntW b 4 + cntW c 4 + cntW d 4) := by
    rw [e1, fSigns_n, fSigns_n, fSigns_n, fSigns_n, nI_add, nI_add, nI_add, nI_add]
    congr 1
    omega
  have sm2 := un_sum ht e2 a b c d
  unfold hUnM rUnM
  by_cases q : t + cntW a 4 + cntW b 4 + cntW c 4 + cntW d 4 ≤ 40
  · have x : xUn a b c d hc = 0 := by
      have l : nI (t + cntW a 4 + cntW b 4 + cntW c 4 + cntW d 4) ≤ 40 := (nI_leI (b := 40) (by omega) (by omega)).mpr q
      unfold xUn; rw [sm, if_pos l]
    have g : gUn a b c d hm = 0 := by
      have l : ¬ 40 < nI (t + cntW a 4 + cntW b 4 + cntW c 4 + cntW d 4) := fun r => by have := (nI_ltI (a := 40) (by omega) (by omega)).mp r; omega
      unfold gUn
      rw [sm2, if_neg l]
      rfl
    rw [x, g, if_pos rfl, if_pos rfl, if_pos rfl, if_pos rfl]
    obtain ⟨r1, s1, z1⟩ := Rel_app (R.thr 0) e1 a (by omega)
    obtain ⟨r2, s2, z2⟩ := Rel_app r1 s1 b (by omega)
    obtain ⟨r3, s3, z3⟩ := Rel_app r2 s2 c (by omega)
    obtain ⟨r4, s4, z4⟩ := Rel_app r3 s3 d (by omega)
    refine ⟨by unfold hTk4; rw [z4, z3, z2, z1, setT_0], fun _ => ?_, r4⟩
    obtain ⟨t4, _, f1, f2, _⟩ := r4.2.2.2.2.1
    unfold hTk4 hUn
    rw [f1, f2]
  · have x : xUn a b c d hc = 3 := by
      have l : ¬ nI (t + cntW a 4 + cntW b 4 + cntW c 4 + cntW d 4) ≤ 40 := fun r => q ((nI_leI (b := 40) (by omega) (by omega)).mp r)
      unfold xUn
      rw [sm, if_neg l]
    have g : gUn a b c d hm = 1 := by
      have l : 40 < nI (t + cntW a 4 + cntW b 4 + cntW c 4 + cntW d 4) := (nI_ltI (a := 40) (by omega) (by omega)).mpr (by omega)
      unfold gUn
      rw [sm2, if_pos l]
      rfl
    rw [x, g, if_neg (by decide), if_neg (by decide), if_neg (by decide), if_neg (by decide)]
    exact ⟨setT_0 _ _, fun q => absurd q (by decide), R.thr _⟩
/-! rule -/
theorem auF_same {g g' : Nat → Int32} : ∀ {n i : Nat} {q : Nat × Nat}, (∀ k, i ≤ k → k < i + n → g k = g' k) → auF g n i q = auF g' n i q
  | 0, i, q, _ => rfl
  | n + 1, i, q, h => by
    unfold auF
    rw [h i (by omega) (by omega)]
    cases auS q (g' i) with
    | none => rfl
    | some q' => exact auF_same (fun k h1 h2 => h k (by omega) (by omega))
theorem cpS_at (src dst : Nat → Int32) (r : Nat) : ∀ (n j : Nat), (j < n → cpS src dst r n (40 * r + j) = src j) ∧ (n ≤ 40 → ∀ q, (q < 40 * r ∨ 40 * r + n ≤ q) → cpS src dst r n q = dst q)
  | 0, j => ⟨fun h => absurd h (Nat.not_lt_zero j), fun _ q _ => rfl⟩
  | n + 1, j => by
    have ih := cpS_at src dst r n
    refine ⟨fun h => ?_, fun hn q hq => ?_⟩
    · show upd (cpS src dst r n) (40 * r + n) (src n) (40 * r + j) = src j
      by_cases e : j = n
      · rw [e, pk_us]
      · rw [pk_un (by omega)]
        exact (ih j).1 (by omega)
    · show upd (cpS src dst r n) (40 * r + n) (src n) q = dst q
      rw [pk_un (by omega)]
      exact (ih j).2 (by omega) q (by omega)
theorem kp_cells {h h0 : mm_Hp} {r : Nat} (k : kpR h h0 r) {c : Nat} (hc : c ≠ 4 ∧ c ≠ 21 ∧ c ≠ 22 ∧ c ≠ 23 ∧ c ≠ 24) : h.1 c = h0.1 c := k.1 c hc.1 hc.2.1 hc.2.2.1 hc.2.2.2.1 hc.2.2.2.2
theorem rule_same {hc hm : mm_Hp} (R : Rel hc hm) : (fRlM hm).2.1 25 0 = (if xRl hc = 0 then 0 else 1) ∧ (xRl hc = 0 → (fRlM hm).1 = (fRT hc).1) ∧ Rel (if xRl hc = 0 then (fRT hc).2 else hc) (fRlM hm).2 := by
  obtain ⟨h1, h2, h3, h4, h5, h6⟩ := R
  obtain ⟨t, ht, e1, e2, et⟩ := h5
  obtain ⟨r, hr, f1, f2, fr⟩ := h6
  have R : Rel hc hm := ⟨h1, h2, h3, h4, ⟨t, ht, e1, e2, et⟩, ⟨r, hr, f1, f2, fr⟩⟩
  have ct : cN (hm.1 25 19) = t := by rw [e2, cN_nI (by omega)]
  have cr : cN (hm.1 25 21) = r := by rw [f2, cN_nI (by omega)]
  unfold xRl fRlM
  by_cases q : 12 ≤ r
  · have l1 : 12 ≤ hc.1 4 8 := by rw [f1]; exact (nI_leI (a := 12) (by omega) (by omega)).mpr q
    have l2 : 12 ≤ hm.1 25 21 := by rw [f2]; exact (nI_leI (a := 12) (by omega) (by omega)).mpr q
    rw [if_pos l1, if_pos l2, if_neg (by decide), if_neg (by decide)]
    exact ⟨setT_0 _ _, fun q => absurd q (by decide), R.thr _⟩
  · have l1 : ¬ 12 ≤ hc.1 4 8 := by rw [f1]; exact fun p => q ((nI_leI (a := 12) (by omega) (by omega)).mp p)
    have l2 : ¬ 12 ≤ hm.1 25 21 := by rw [f2]; exact fun p => q ((nI_leI (a := 12) (by omega) (by omega)).mp p)
    rw [if_neg l1, if_neg l2, if_pos rfl, if_pos rfl, ct, cr]
    have S := rt_sim (h0 := hc) ht e1 (by omega : r < 12) f1
    have ea : auF (hm.1 40) t 0 (0, 0) = auF (hc.1 20) t 0 (0, 0) := auF_same (fun k _ hk => et k (by omega))
    rw [ea]
    generalize fRT hc = Q at S
    rcases S with ⟨p, s1, s2, s3, s4, s5, s6⟩ | ⟨s1, s2, s3, s4, s5, c, s6, s7, s8⟩
    · have pn : ¬ nI p = -1 := fun x => by
        have := congrArg Int32.toInt x
        rw [nI_toInt (by omega)] at this
        have e2 : Int32.toInt (-1) = -1 := by decide
        omega
      rw [s1, if_neg pn]
      dsimp only
      have ce : ∀ {c : Nat}, c ≠ 4 ∧ c ≠ 21 ∧ c ≠ 22 ∧ c ≠ 23 ∧ c ≠ 24 → Q.2.1 c = hc.1 c := fun h => kp_cells s4 h
      have m25 : (mRl0 hm).1 25 = upd ((setT 0 hm).1 25) 19 0 := by unfold mRl0; rw [setA_at]
      have me : ∀ {c : Nat}, c ≠ 25 → (mRl0 hm).1 c = hm.1 c := fun h => by unfold mRl0; rw [setA_ne _ _ _ h, setT_ne _ _ h]
      have zm : ∀ {j : Nat}, j ≠ 0 ∧ j ≠ 19 → (mRl0 hm).1 25 j = hm.1 25 j := fun h => by rw [m25, pk_un h.2, setT_25 _ _ h.1]
      refine ⟨by rw [m25, pk_un (by omega), setT_0], fun _ => s3.symm, h1.cg (by rw [ce (by omega)]) (ce (by omega)) (ce (by omega)) (ce (by omega)) (ce (by omega)) (ce (by omega)) (ce (by omega)) (zm (by omega)) (me (by omega)) (me (by omega)) (me (by omega)) (me (by omega)) (me (by omega)), h2.cg (by rw [ce (by omega)]) (ce (by omega)) (ce (by omega)) (zm (by omega)) (me (by omega)) (me (by omega)), h3.cg (by rw [ce (by omega)]) (ce (by omega)) (zm (by omega)) (me (by omega)), h4.cg (by rw [ce (by omega)]) (ce (by omega)) (zm (by omega)) (me (by omega)), ⟨0, by omega, by rw [s5]; rfl, by rw [m25, pk_us]; rfl, fun k hk => absurd hk (Nat.not_lt_zero k)⟩, ⟨r, hr, s6, by rw [zm (by omega)]; exact f2, fun i hi => ?_⟩⟩
      obtain ⟨cc, l, y1, y2, y3, y4, y5⟩ := fr i hi
      refine ⟨cc, l, y1, y2, by rw [(s4.2.2.2 i hi).1]; exact y3, by rw [me (by omega)]; exact y4, fun hh => ?_⟩
      rw [me (by omega), (s4.2.2.2 i hi).2, y5 hh, anC_same (K := Q.2.1 21) (V := Q.2.1 22) (K' := hc.1 21) (V' := hc.1 22) (fun k h1 h2 => s4.2.2.1 k (by omega))]
    · rw [s1, if_pos rfl]
      dsimp only
      have ce : ∀ {c : Nat}, c ≠ 4 ∧ c ≠ 21 ∧ c ≠ 22 ∧ c ≠ 23 ∧ c ≠ 24 → Q.2.1 c = hc.1 c := fun h => kp_cells s3 h
      have m25 : (mRl1 hm r t).1 25 = upd (upd ((setT 0 hm).1 25) 21 (hm.1 25 21 + 1)) 19 0 := by
        unfold mRl1
        rw [setA_at, setA_at, setA_ne _ _ _ (by omega), sR_ne (by omega)]
      have m41 : (mRl1 hm r t).1 41 = upd (hm.1 41) r (hm.1 25 19) := by
        unfold mRl1
        rw [setA_ne _ _ _ (by omega), setA_ne _ _ _ (by omega), setA_at, sR_ne (by omega), setT_ne _ _ (by omega)]
      have m42 : (mRl1 hm r t).1 42 = cpS (hm.1 40) (hm.1 42) r t := by
        unfold mRl1
        rw [setA_ne _ _ _ (by omega), setA_ne _ _ _ (by omega), setA_ne _ _ _ (by omega), sR_at]
      have me : ∀ {c : Nat}, c ≠ 25 ∧ c ≠ 41 ∧ c ≠ 42 → (mRl1 hm r t).1 c = hm.1 c := fun h => by
        unfold mRl1
        rw [setA_ne _ _ _ h.1, setA_ne _ _ _ h.1, setA_ne _ _ _ h.2.1, sR_ne h.2.2, setT_ne _ _ h.1]
      have zm : ∀ {j : Nat}, j ≠ 0 ∧ j ≠ 19 ∧ j ≠ 21 → (mRl1 hm r t).1 25 j = hm.1 25 j := fun h => by rw [m25, pk_un h.2.1, pk_un h.2.2, setT_25 _ _ h.1]
      refine ⟨by rw [m25, pk_un (by omega), pk_un (by omega), setT_0], fun _ => by rw [s2, f2, nI_1, nI_pred], h1.cg (by rw [ce (by omega)]) (ce (by omega)) (ce (by omega)) (ce (by omega)) (ce (by omega)) (ce (by omega)) (ce (by omega)) (zm (by omega)) (me (by omega)) (me (by omega)) (me (by omega)) (me (by omega)) (me (by omega)), h2.cg (by rw [ce (by omega)]) (ce (by omega)) (ce (by omega)) (zm (by omega)) (me (by omega)) (me (by omega)), h3.cg (by rw [ce (by omega)]) (ce (by omega)) (zm (by omega)) (me (by omega)), h4.cg (by rw [ce (by omega)]) (ce (by omega)) (zm (by omega)) (me (by omega)), ⟨0, by omega, by rw [s4]; rfl, by rw [m25, pk_us]; rfl, fun k hk => absurd hk (Nat.not_lt_zero k)⟩, ⟨r + 1, by omega, s5, by rw [m25, pk_un (by omega), pk_us, f2, nI_1], fun i hi => ?_⟩⟩
      by_cases e : i = r
      · subst e
        refine ⟨c, t, s6, ht, s7, by rw [m41, pk_us, e2], fun hh => ?_⟩
        rw [← s8 hh]
        refine evF_same (fun k hk => ?_)
        show (mRl1 hm i t).1 42 (40 * i + k) = hc.1 20 k
        rw [m42, (cpS_at (hm.1 40) (hm.1 42) i t k).1 hk]
        exact et k hk
      · have hi2 : i < r := by omega
        obtain ⟨cc, l, y1, y2, y3, y4, y5⟩ := fr i hi2
        refine ⟨cc, l, y1, y2, by rw [(s3.2.2.2 i hi2).1]; exact y3, by rw [m41, pk_un e]; exact y4, fun hh => ?_⟩
        rw [(s3.2.2.2 i hi2).2, anC_same (K := Q.2.1 21) (V := Q.2.1 22) (K' := hc.1 21) (V' := hc.1 22) (fun k h1 h2 => s3.2.2.1 k (by omega)), ← y5 hh]
        refine evF_same (fun k hk => ?_)
        show (mRl1 hm r t).1 42 (40 * i + k) = hm.1 42 (40 * i + k)
        rw [m42]
        exact (cpS_at (hm.1 40) (hm.1 42) r t k).2 ht _ (by omega)
/-! type -/
theorem anC_0 (h : Int32 → Int32 → Int32) (K V : Nat → Int32) (b : Nat) : ∀ c, anC h K V b c = 0 ↔ ∃ j, j < c ∧ h (K (b + j)) (V (b + j)) = 0
  | 0 => ⟨fun q => absurd (show (1 : Int32) = 0 from q) (by decide), fun ⟨j, hj, _⟩ => absurd hj (Nat.not_lt_zero j)⟩
  | c + 1 => by
    have ih := anC_0 h K V b c
    unfold anC
    by_cases q : anC h K V b c = 0
    · rw [if_pos q]
      obtain ⟨j, hj, e⟩ := ih.mp q
      exact ⟨fun _ => ⟨j, by omega, e⟩, fun _ => rfl⟩
    · rw [if_neg q]
      constructor
      · intro e; exact ⟨c, by omega, e⟩
      · rintro ⟨j, hj, e⟩
        by_cases p : j = c
        · rw [p] at e; exact e
        · exact absurd (ih.mpr ⟨j, by omega, e⟩) q
theorem fAllF_0 (hp : mm_Hp) (c : Int32) : ∀ n s, fAllF hp c n s = 0 ↔ ∃ j, j < n ∧ fHolds (hp.1 21 (s + j)) (hp.1 22 (s + j)) c hp = 0
  | 0, s => ⟨fun q => absurd (show (1 : Int32) = 0 from q) (by decide), fun ⟨j, hj, _⟩ => absurd hj (Nat.not_lt_zero j)⟩
  | n + 1, s => by
    have ih := fAllF_0 hp c n (s + 1)
    unfold fAllF
    by_cases q : fHolds (hp.1 21 s) (hp.1 22 s) c hp = 0
    · rw [if_pos q]
      exact ⟨fun _ => ⟨0, by omega, q⟩, fun _ => rfl⟩
    · rw [if_neg q, ih]
      constructor
      · rintro ⟨j, hj, e⟩
        exact ⟨j + 1, by omega, by rw [show s + (j + 1) = s + 1 + j by omega]; exact e⟩
      · rintro ⟨j, hj, e⟩
        rcases Nat.eq_zero_or_pos j with p | p
        · rw [p] at e; exact absurd e q
        · exact ⟨j - 1, by omega, by rw [show s + 1 + (j - 1) = s + j by omega]; exact e⟩
theorem type_same {hc hm : mm_Hp} (R : Rel hc hm) (c : Int32) : (hTyM c hm).1 25 0 = nI (xCoin c hc) ∧ (xCoin c hc = 0 → rTyM c hm = fType c hc) ∧ Rel hc (hTyM c hm) := by
  unfold hTyM rTyM
  rcases coin_code R.1 c with ⟨a1, a2⟩ | ⟨a1, a2, k, hk, ek⟩
  · have g : fGo (fIc c hm) 1 1 = 1 := by rw [a2]; rfl
    rw [a1, g]
    exact ⟨setT_0 _ _, fun q => absurd q (by decide), R.thr _⟩
  · have g : fGo (fIc c hm) 1 1 = 0 := by rw [a2]; rfl
    rw [a1, g, if_pos rfl]
    refine ⟨by rw [setT_0, nI_0], fun _ => ?_, R.thr _⟩
    obtain ⟨r, hr, f1, f2, fr⟩ := R.2.2.2.2.2
    have n := R.1.n
    have cr : cN (hm.1 25 21) = r := by rw [f2, cN_nI (by omega)]
    have rl : rlN hc = r := by unfold rlN; rw [f1, nIc (by omega)]
    have hH : (fun kd v => fMh c kd v hm) = fun kd v => fHolds kd v c hc := by
      funext kd v
      have tc : c.toNatClampNeg = k := by rw [ek, nIc (by omega)]
      unfold fMh fHolds
      rw [tc, R.1.gram hk, R.1.front hk, R.1.back hk, R.1.dbt hk]
    unfold fType
    rw [cr, rl]
    have go : ∀ m i, i + m = r → fTyF hm c m i = fTypF hc c m i := by
      intro m
      induction m with
      | zero => intro i _; rfl
      | succ m ih =>
        intro i hi
        obtain ⟨cc, l, y1, y2, y3, y4, y5⟩ := fr i (by omega)
        have eE : evR hm c i = (anC (fun kd v => fHolds kd v c hc) (hc.1 21) (hc.1 22) (i * 20) cc, 0, hc.1 24 i) := by
          unfold evR lnR
          rw [y4, cN_nI (by omega), hH]
          exact y5 _
        have eA : fAll (nI i) c hc = fAllF hc c cc (i * 20) := by
          unfold fAll cdN
          rw [nIc (by omega), y3, nIc (by omega)]
        have hz : anC (fun kd v => fHolds kd v c hc) (hc.1 21) (hc.1 22) (i * 20) cc = 0 ↔ fAllF hc c cc (i * 20) = 0 := by rw [anC_0, fAllF_0]
        unfold fTyF fTypF
        rw [eE, eA]
        dsimp only
        by_cases q : fAllF hc c cc (i * 20) = 0
        · rw [if_pos q, if_pos (hz.mpr q), ih (i + 1) (by omega)]
        · rw [if_neg q, if_neg (fun p => q (hz.mp p))]
    exact go r 0 (by omega)
