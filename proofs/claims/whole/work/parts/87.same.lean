/-! dies, overlap, unit, rule, type: alike -/
theorem lsN_ne (a b : Int32) (h : mm_Hp) {c : Nat} (hc : c ≠ 25) : (lsN a b h).1 c = h.1 c := by
  unfold lsN
  dsimp only
  rw [mm_up_n hc, mm_up_n hc]
theorem lsN_25 (a b : Int32) (h : mm_Hp) {q : Nat} (h1 : q ≠ 24) (h2 : q ≠ 25) : (lsN a b h).1 25 q = h.1 25 q := by
  unfold lsN
  dsimp only
  rw [mm_up_s, pk_un h2, mm_up_s, pk_un h1]
theorem sumN_add (f : Nat → Nat) (m : Nat) : ∀ n, sumN f (m + n) = sumN f m + sumN (fun k => f (m + k)) n
  | 0 => rfl
  | n + 1 => by
    show sumN f (m + n) + f (m + n) = sumN f m + (sumN (fun k => f (m + k)) n + f (m + n))
    rw [sumN_add f m n]; omega
theorem sumN_0 {f : Nat → Nat} : ∀ {n : Nat}, (∀ k, k < n → f k = 0) → sumN f n = 0
  | 0, _ => rfl
  | n + 1, h => by
    show sumN f n + f n = 0
    rw [sumN_0 (fun k hk => h k (by omega)), h n (by omega)]
theorem cnP_0 {p : Nat → Bool} : ∀ {n : Nat}, (∀ k, k < n → p k = false) → cnP p n = 0
  | 0, _ => rfl
  | n + 1, h => by rw [cnP_s, h n (by omega), if_neg (by decide), cnP_0 (fun k hk => h k (by omega))]
theorem bDs_ok {f : Int32 → Int32} {o : Nat → Nat} {b : Nat} : ∀ {m : Nat}, (∀ k, k < m → o k ≤ 80 ∧ f (nI (16 * b + k)) = nI (o k)) → lp (bDs f b) m (0, 0, 0) = (nI (sumN o m), nI (cnP (fun d => decide (0 < o d)) m), nI (cnP (fun d => decide (o d = 1)) m))
  | 0, _ => rfl
  | m + 1, h => by
    have ih := bDs_ok (f := f) (o := o) (b := b) (m := m) (fun k hk => h k (by omega))
    obtain ⟨h1, h2⟩ := h m (by omega)
    show bDs f b m (lp (bDs f b) m (0, 0, 0)) = _
    rw [ih]
    unfold bDs
    rw [h2]
    dsimp only
    have e1 : nI (o m) ≤ 0 ↔ o m ≤ 0 := nI_leI (b := 0) (by omega) (by omega)
    have e2 : nI (o m) = 1 ↔ o m = 1 := nI_eq (b := 1) (by omega) (by omega)
    rw [cnP_s, cnP_s, nI_add]
    have f1 : nI (cnP (fun d => decide (0 < o d)) m) + (if nI (o m) ≤ 0 then 0 else 1) = nI (if decide (0 < o m) = true then cnP (fun d => decide (0 < o d)) m + 1 else cnP (fun d => decide (0 < o d)) m) := by
      by_cases q : 0 < o m
      · rw [if_neg (fun r => by have := e1.mp r; omega), decide_eq_true q, if_pos rfl, nI_1]
      · rw [if_pos (e1.mpr (by omega)), decide_eq_false q, if_neg (by decide)]
        exact nI_add _ 0
    have f2 : nI (cnP (fun d => decide (o d = 1)) m) + (if nI (o m) = 1 then 1 else 0) = nI (if decide (o m = 1) = true then cnP (fun d => decide (o d = 1)) m + 1 else cnP (fun d => decide (o d = 1)) m) := by
      by_cases q : o m = 1
      · rw [if_pos (e2.mpr q), decide_eq_true q, if_pos rfl, nI_1]
      · rw [if_neg (fun r => q (e2.mp r)), decide_eq_false q, if_neg (by decide)]
        exact nI_add _ 0
    rw [f1, f2]
    rfl
theorem own_ow {hc hm : mm_Hp} (h : Rel1 hc hm) {s : Int32} (d : Nat) : ownC hc s (nI d) = nI (ow (hm.1 29) (diS hm s) (szN hc) d) := by
  unfold ownC ow
  refine cnP_int (fun k a hk => ?_)
  unfold bC_with owP diS
  rw [h.dbt hk, h.front hk, h.back hk]
  by_cases q : hc.1 11 k = 0
  · rw [if_pos q, decide_eq_true q, Bool.true_and]
    by_cases r : (if s = 0 then hc.1 5 k else hc.1 6 k) = nI d
    · rw [if_pos r, decide_eq_true r, if_pos rfl]
    · rw [if_neg r, decide_eq_false r, if_neg (by decide)]
  · rw [if_neg q, decide_eq_false q, Bool.false_and, if_neg (by decide)]
theorem ow_side {hc hm : mm_Hp} (h : Rel1 hc hm) {j d : Nat} (hj : j < 2) (hd : d < 32) (hs : d / 16 ≠ j) : ow (hm.1 29) (diS hm (nI j)) (szN hc) d = 0 := by
  unfold ow
  refine cnP_0 (fun k hk => ?_)
  obtain ⟨⟨f, hf, _, e1⟩, ⟨b, hb1, hb2, _, e2⟩, _⟩ := h.k hk
  unfold owP diS
  rcases (by omega : j = 0 ∨ j = 1) with rfl | rfl
  · have nf : ¬ nI f = nI d := fun r => by have := (nI_eq (by omega) (by omega)).mp r; omega
    rw [if_pos (show nI 0 = 0 from rfl), e1, decide_eq_false nf, Bool.and_false]
  · have nf : ¬ nI b = nI d := fun r => by have := (nI_eq (by omega) (by omega)).mp r; omega
    rw [if_neg (show ¬ nI 1 = 0 by decide), e2, decide_eq_false nf, Bool.and_false]
theorem sum_lo {o : Nat → Nat} (n m : Nat) (z : ∀ k, k < m → o (n + k) = 0) : sumN o (n + m) = sumN o n := by
  rw [sumN_add, sumN_0 z, Nat.add_zero]
theorem sum_hi {o : Nat → Nat} (n m : Nat) (z : ∀ k, k < n → o k = 0) : sumN o (n + m) = sumN (fun k => o (n + k)) m := by
  rw [sumN_add, sumN_0 z, Nat.zero_add]
theorem cnt_lo {p : Nat → Bool} (n m : Nat) (z : ∀ k, k < m → p (n + k) = false) : cnP p (n + m) = cnP p n := by
  rw [cnP_add, cnP_0 z, Nat.add_zero]
theorem cnt_hi {p : Nat → Bool} (n m : Nat) (z : ∀ k, k < n → p k = false) : cnP p (n + m) = cnP (fun k => p (n + k)) m := by
  rw [cnP_add, cnP_0 z, Nat.zero_add]
theorem halfO {o : Nat → Nat} {j : Nat} (hj : j < 2) (z : ∀ d, d < 32 → d / 16 ≠ j → o d = 0) (p : Nat → Bool) (hp : p 0 = false) : sumN (fun k => o (16 * j + k)) 16 = sumN o 32 ∧ cnP (fun k => p (o (16 * j + k))) 16 = cnP (fun d => p (o d)) 32 := by
  rcases (by omega : j = 0 ∨ j = 1) with rfl | rfl
  · have e : ∀ k, 16 * 0 + k = k := fun k => by omega
    have e1 : (fun k => o (16 * 0 + k)) = o := funext (fun k => by rw [e k])
    have e2 : (fun k => p (o (16 * 0 + k))) = fun k => p (o k) := funext (fun k => by rw [e k])
    rw [e1, e2]
    have z1 : ∀ k, k < 16 → o (16 + k) = 0 := fun k hk => z (16 + k) (by omega) (by omega)
    have z2 : ∀ k, k < 16 → (fun d => p (o d)) (16 + k) = false := fun k hk => by show p (o (16 + k)) = false; rw [z1 k hk]; exact hp
    have r1 := sum_lo (o := o) 16 16 z1
    have r2 := cnt_lo (p := fun d => p (o d)) 16 16 z2
    rw [show 16 + 16 = 32 from rfl] at r1 r2
    exact ⟨r1.symm, r2.symm⟩
  · have z1 : ∀ k, k < 16 → o k = 0 := fun k hk => z k (by omega) (by omega)
    have z2 : ∀ k, k < 16 → (fun d => p (o d)) k = false := fun k hk => by show p (o k) = false; rw [z1 k hk]; exact hp
    have r1 := sum_hi (o := o) 16 16 z1
    have r2 := cnt_hi (p := fun d => p (o d)) 16 16 z2
    rw [show 16 + 16 = 32 from rfl] at r1 r2
    rw [show 16 * 1 = 16 from rfl]
    exact ⟨r1.symm, r2.symm⟩
theorem half {hc hm : mm_Hp} (h : Rel1 hc hm) {j : Nat} (hj : j < 2) : sumN (fun k => ow (hm.1 29) (diS hm (nI j)) (szN hc) (16 * j + k)) 16 = sumN (ow (hm.1 29) (diS hm (nI j)) (szN hc)) 32 ∧ cnP (fun k => decide (0 < ow (hm.1 29) (diS hm (nI j)) (szN hc) (16 * j + k))) 16 = cnP (fun d => decide (0 < ow (hm.1 29) (diS hm (nI j)) (szN hc) d)) 32 ∧ cnP (fun k => decide (ow (hm.1 29) (diS hm (nI j)) (szN hc) (16 * j + k) = 1)) 16 = cnP (fun d => decide (ow (hm.1 29) (diS hm (nI j)) (szN hc) d = 1)) 32 := by
  have z := fun d (hd : d < 32) (hs : d / 16 ≠ j) => ow_side h hj hd hs
  obtain ⟨h1, h2⟩ := halfO hj z (fun x => decide (0 < x)) rfl
  obtain ⟨_, h3⟩ := halfO hj z (fun x => decide (x = 1)) rfl
  exact ⟨h1, h2, h3⟩
theorem dies_same {hc hm : mm_Hp} (R : Rel hc hm) (s p : Int32) : (hDsM s p hm).1 25 0 = nI (xDs s p) ∧ (xDs s p = 0 → rDsM s p hm = fDs s p hc) ∧ Rel hc (hDsM s p hm) := by
  have n := R.1.n
  unfold hDsM rDsM
  rcases side_code s with ⟨a1, a2⟩ | ⟨a1, a2, j, hj, ej⟩
  · have x : xDs s p = 1 := by unfold xDs; rw [a1, if_neg (by decide)]
    have g : gDs s p = 1 := by unfold gDs; rw [a2, if_pos rfl]; rfl
    rw [x, g, if_neg (by decide), if_neg (by decide)]
    exact ⟨setT_0 _ _, fun q => absurd q (by decide), R.thr _⟩
  · rcases side_code p with ⟨b1, b2⟩ | ⟨b1, b2, i, hi, ei⟩
    · have x : xDs s p = 1 := by unfold xDs; rw [a1, b1, if_pos rfl]
      have g : gDs s p = 1 := by unfold gDs; rw [a2, b2, if_neg (by decide), if_pos rfl]; rfl
      rw [x, g, if_neg (by decide), if_neg (by decide)]
      exact ⟨setT_0 _ _, fun q => absurd q (by decide), R.thr _⟩
    · have x : xDs s p = 0 := by unfold xDs; rw [a1, b1, if_pos rfl]
      have g : gDs s p = 0 := by unfold gDs; rw [a2, b2, if_neg (by decide), if_neg (by decide)]; rfl
      rw [x, g, if_pos rfl, if_pos rfl]
      refine ⟨?_, fun _ => ?_, R.frm _ _ (fun c _ _ => rfl) (fun c h1 h2 h3 => ?_) (fun q h1 h2 h3 => ?_)⟩
      · unfold frS mDs
        rw [setA_at, pk_un (by omega), setA_at, pk_un (by omega), sR_ne (by omega), setT_0, nI_0]
      · unfold fDs
        have tj : s.toNatClampNeg = j := by rw [ej, nIc (by omega)]
        rw [tj, bDs_ok (o := fun k => ow (hm.1 29) (diS hm s) (szN hc) (16 * j + k)) (fun k hk => ⟨Nat.le_trans (ow_le _ _ _ _) n.1, own_ow R.1 _⟩)]
        obtain ⟨e1, e2, e3⟩ := half R.1 hj
        rw [← ej] at e1 e2 e3
        rw [e1, e2, e3]
        have hd := diS_ok R.1.md s
        rw [n.2.1] at hd ⊢
        rw [ow_sum hd]
        have lS : cnP (fun d => decide (ow (hm.1 29) (diS hm s) (szN hc) d = 1)) 32 ≤ cnP (fun k => decide (hm.1 29 k = 0)) (szN hc) := by rw [← ow_sum (du := hm.1 29) hd]; exact one_sum
        have lN := cnP_le (fun k => decide (hm.1 29 k = 0)) (szN hc)
        have lD := cnP_le (fun d => decide (0 < ow (hm.1 29) (diS hm s) (szN hc) d)) 32
        unfold dsQ eDs
        generalize cnP (fun k => decide (hm.1 29 k = 0)) (szN hc) = N at lS lN
        generalize cnP (fun d => decide (0 < ow (hm.1 29) (diS hm s) (szN hc) d)) 32 = D at lD
        generalize cnP (fun d => decide (ow (hm.1 29) (diS hm s) (szN hc) d = 1)) 32 = S at lS
        have lDN : D * N ≤ 4000 := Nat.le_trans (Nat.mul_le_mul lD (Nat.le_trans lN n.1)) (by omega)
        dsimp only
        by_cases q : N = 0
        · have q2 : nI N = 0 := by rw [q]; rfl
          rw [if_pos q, if_pos q2, fLess_01]
        · have q2 : ¬ nI N = 0 := nI_ne0 (by omega) (by omega)
          rw [if_neg q, if_neg q2, pk_mul, pk_sub lS, fLess_ok (by omega) (by omega)]
      · unfold frS mDs
        rw [setA_ne _ _ _ h1, setA_ne _ _ _ h1, sR_ne h3, setT_ne _ _ h1]
      · unfold frS mDs
        rw [setA_at, pk_un h3, setA_at, pk_un h2, sR_ne (by omega), setT_25 _ _ h1]
/-! overlap -/
theorem hd_iff (hs du fr bk : Nat → Int32) (i : Nat) (d : Int32) : ∀ n, ¬ lp (bHd hs du fr bk i d) n 0 = 0 ↔ ∃ k, k < n ∧ ¬ hs (80 * i + k) = 0 ∧ du k = 0 ∧ (fr k = d ∨ bk k = d)
  | 0 => ⟨fun h => absurd rfl h, fun ⟨k, hk, _⟩ => absurd hk (Nat.not_lt_zero k)⟩
  | n + 1 => by
    have ih := hd_iff hs du fr bk i d n
    show ¬ bHd hs du fr bk i d n (lp (bHd hs du fr bk i d) n 0) = 0 ↔ _
    generalize lp (bHd hs du fr bk i d) n 0 = v at ih
    unfold bHd
    by_cases q : v = 0
    · rw [if_pos q]
      have hn : ¬ ∃ k, k < n ∧ ¬ hs (80 * i + k) = 0 ∧ du k = 0 ∧ (fr k = d ∨ bk k = d) := fun r => (ih.mpr r) q
      have lastOnly : (∃ k, k < n + 1 ∧ ¬ hs (80 * i + k) = 0 ∧ du k = 0 ∧ (fr k = d ∨ bk k = d)) ↔ (¬ hs (80 * i + n) = 0 ∧ du n = 0 ∧ (fr n = d ∨ bk n = d)) := by
        constructor
        · rintro ⟨k, hk, r⟩
          by_cases e : k = n
          · rw [e] at r; exact r
          · exact absurd ⟨k, by omega, r⟩ hn
        · intro r; exact ⟨n, by omega, r⟩
      rw [lastOnly]
      by_cases q1 : hs (80 * i + n) = 0
      · rw [if_pos q1]; exact ⟨fun h => absurd rfl h, fun r => absurd q1 r.1⟩
      · rw [if_neg q1]
        by_cases q2 : du n = 0
        · rw [if_pos q2]
          by_cases q3 : fr n = d
          · rw [if_pos q3]; exact ⟨fun _ => ⟨q1, q2, Or.inl q3⟩, fun _ => by decide⟩
          · rw [if_neg q3]
            by_cases q4 : bk n = d
            · rw [if_pos q4]; exact ⟨fun _ => ⟨q1, q2, Or.inr q4⟩, fun _ => by decide⟩
            · rw [if_neg q4]; exact ⟨fun h => absurd rfl h, fun r => r.2.2.elim (fun e => absurd e q3) (fun e => absurd e q4)⟩
        · rw [if_neg q2]; exact ⟨fun h => absurd rfl h, fun r => absurd r.2.1 q2⟩
    · rw [if_neg q]
      obtain ⟨k, hk, r⟩ := ih.mp q
      exact ⟨fun _ => ⟨k, by omega, r⟩, fun _ => by decide⟩
theorem sd_bits {hp : mm_Hp} (h : cnOk hp) {i : Nat} (hi : i < 8) (d : Nat) : qb (sdH (nI i) hp) d = true ↔ ∃ k, k < szN hp ∧ hp.1 11 k = 0 ∧ qb (hp.1 10 k) i = true ∧ (cN (hp.1 5 k) = d ∨ cN (hp.1 6 k) = d) := by
  unfold sdH
  rw [lp_bit (P := fun k d => hp.1 11 k = 0 ∧ qb (hp.1 10 k) i = true ∧ (cN (hp.1 5 k) = d ∨ cN (hp.1 6 k) = d))]
  · rw [qb_0]
    constructor
    · rintro (q | q)
      · cases q
      · exact q
    · exact Or.inr
  · intro k hk a d
    obtain ⟨_, ⟨f, hf, ef⟩, b, hb1, hb2, eb⟩ := h.2 k hk
    unfold bC_dies
    by_cases q1 : hp.1 11 k = 0
    · rw [if_pos q1]
      by_cases q2 : bitAt (hp.1 10 k) (nI i) = 0
      · rw [if_pos q2]
        rw [bitAt_eq (by omega)] at q2
        exact ⟨Or.inl, fun r => r.elim id (fun r => by rw [q2] at r; exact absurd r.2.1 (by decide))⟩
      · rw [if_neg q2]
        rw [bitAt_ne (by omega)] at q2
        rw [qb_or, qb_or, ef, eb, qb_bit1 (by omega), qb_bit1 hb2, Bool.or_eq_true, Bool.or_eq_true, decide_eq_true_iff, decide_eq_true_iff, cN_nI (by omega), cN_nI (by omega)]
        constructor
        · rintro (r | r)
          · exact Or.inl r
          · exact Or.inr ⟨q1, q2, r⟩
        · rintro (r | ⟨_, _, r⟩)
          · exact Or.inl r
          · exact Or.inr r
    · rw [if_neg q1]
      exact ⟨Or.inl, fun r => r.elim id (fun r => absurd r.1 q1)⟩
theorem hd_same {hc hm : mm_Hp} (R : Rel hc hm) {i d : Nat} (hi : i < 8) (hd : d < 32) (v : Int32) : nz (fHd (nI i) (nI d) (setT v hm)) = qb (sdH (nI i) hc) d := by
  have n := R.1.n
  rw [Bool.eq_iff_iff, nz_t, sd_bits R.1.cn hi]
  unfold fHd
  have esz : mszN (setT v hm) = szN hc := by unfold mszN; rw [setT_25 _ _ (by omega)]; exact n.2.1
  rw [hd_iff, esz, cN_nI (by omega), setT_ne v hm (by omega), setT_ne v hm (by omega), setT_ne v hm (by omega), setT_ne v hm (by omega)]
  have key : ∀ k, k < szN hc → ((¬ hm.1 39 (80 * i + k) = 0 ∧ hm.1 29 k = 0 ∧ (hm.1 26 k = nI d ∨ hm.1 27 k = nI d)) ↔ (hc.1 11 k = 0 ∧ qb (hc.1 10 k) i = true ∧ (cN (hc.1 5 k) = d ∨ cN (hc.1 6 k) = d))) := by
    intro k hk
    obtain ⟨⟨f, hf, e1, e2⟩, ⟨b, hb1, hb2, e3, e4⟩, _⟩ := R.1.k hk
    rw [← nz_t, (R.2.2.2.1.2 k i (by omega) hi).2, R.1.dbt hk, e1, e2, e3, e4, cN_nI (by omega), cN_nI (by omega), nI_eq (by omega) (by omega), nI_eq (by omega) (by omega)]
    constructor
    · rintro ⟨a, b, c⟩; exact ⟨b, a, c⟩
    · rintro ⟨a, b, c⟩; exact ⟨b, a, c⟩
  constructor
  · rintro ⟨k, hk, r⟩; exact ⟨k, hk, (key k hk).mp r⟩
  · rintro ⟨k, hk, r⟩; exact ⟨k, hk, (key k hk).mpr r⟩
theorem b2_cn (f g : Nat → Int32) (n : Nat) : lp (bB2 f g) n 0 = nI (cnP (fun d => nz (f d) && nz (g d)) n) ∧ lp (bS2 f g) n 0 = nI (cnP (fun d => nz (f d) || nz (g d)) n) := by
  refine ⟨cnP_int (fun k a _ => ?_), cnP_int (fun k a _ => ?_)⟩
  · unfold bB2
    by_cases q1 : f k = 0
    · rw [if_pos q1, nz_f.mpr q1, Bool.false_and, if_neg (by decide)]
    · rw [if_neg q1, nz_t.mpr q1, Bool.true_and]
      by_cases q2 : g k = 0
      · rw [if_pos q2, nz_f.mpr q2, if_neg (by decide)]
      · rw [if_neg q2, nz_t.mpr q2, if_pos rfl]
  · unfold bS2
    by_cases q1 : f k = 0
    · rw [if_pos q1, nz_f.mpr q1, Bool.false_or]
      by_cases q2 : g k = 0
      · rw [if_pos q2, nz_f.mpr q2, if_neg (by decide)]
      · rw [if_neg q2, nz_t.mpr q2, if_pos rfl]
    · rw [if_neg q1, nz_t.mpr q1, Bool.true_or, if_pos rfl]
theorem overlap_same {hc hm : mm_Hp} (R : Rel hc hm) (a b p : Int32) : (hOvM a b p hm).1 25 0 = nI (xOv a b p hc) ∧ (xOv a b p hc = 0 → rOvM a b p hm = fOv a b p hc) ∧ Rel hc (hOvM a b p hm) := by
  unfold hOvM rOvM
  have bad : xOv a b p hc = 1 → gOv a b p hm = 1 → ((if gOv a b p hm = 0 then lsN (ovF fHd a b hm).1 (ovF fHd a b hm).2 (setT 0 hm) else setT (gOv a b p hm) hm).1 25 0 = nI (xOv a b p hc) ∧ (xOv a b p hc = 0 → (if gOv a b p hm = 0 then frR (cN (ovF fHd a b hm).1) (cN (ovF fHd a b hm).2) p else 0) = fOv a b p hc) ∧ Rel hc (if gOv a b p hm = 0 then lsN (ovF fHd a b hm).1 (ovF fHd a b hm).2 (setT 0 hm) else setT (gOv a b p hm) hm)) := fun x g => by
    rw [x, g, if_neg (by decide), if_neg (by decide)]
    exact ⟨setT_0 _ _, fun q => absurd q (by decide), R.thr _⟩
  rcases hoard_code R.2.2.2.1 a with ⟨a1, a2⟩ | ⟨a1, a2, i, hi, ei⟩
  · exact bad (by unfold xOv; rw [a1, if_neg (by decide)]) (by unfold gOv; rw [a2, if_pos rfl]; rfl)
  · rcases hoard_code R.2.2.2.1 b with ⟨b1, b2⟩ | ⟨b1, b2, j, hj, ej⟩
    · exact bad (by unfold xOv; rw [a1, b1, if_pos rfl, if_neg (by decide)]) (by unfold gOv; rw [a2, b2, if_neg (by decide), if_pos rfl]; rfl)
    · rcases side_code p with ⟨d1, d2⟩ | ⟨d1, d2, m, hm2, em⟩
      · exact bad (by unfold xOv; rw [a1, b1, d1, if_pos rfl, if_pos rfl]) (by unfold gOv; rw [a2, b2, d2, if_neg (by decide), if_neg (by decide), if_pos rfl]; rfl)
      · have x : xOv a b p hc = 0 := by unfold xOv; rw [a1, b1, d1, if_pos rfl, if_pos rfl]
        have g : gOv a b p hm = 0 := by unfold gOv; rw [a2, b2, d2, if_neg (by decide), if_neg (by decide), if_neg (by decide)]; rfl
        rw [x, g, if_pos rfl, if_pos rfl]
        refine ⟨by rw [lsN_25 _ _ _ (by omega) (by omega), setT_0, nI_0], fun _ => ?_, R.frm _ _ (fun c _ _ => rfl) (fun c h1 h2 h3 => by rw [lsN_ne _ _ _ h1, setT_ne _ _ h1]) (fun q h1 h2 h3 => by rw [lsN_25 _ _ _ h2 h3, setT_25 _ _ h1])⟩
        have hAB : (ovF fHd a b hm).1 = fBC (sdH a hc &&& sdH b hc) ∧ (ovF fHd a b hm).2 = one0 (fBC (sdH a hc ||| sdH b hc)) := by
          unfold ovF
          obtain ⟨c1, c2⟩ := b2_cn (fun d => fHd a (nI d) (setT 0 hm)) (fun d => fHd b (nI d) (setT 0 hm)) 32
          dsimp only
          rw [c1, c2, fBC_ok, fBC_ok]
          refine ⟨?_, ?_⟩
          · congr 1
            refine cnP_same (fun d hd => ?_)
            rw [ei, ej, hd_same R hi hd, hd_same R hj hd, qb_and]
          · congr 2
            refine cnP_same (fun d hd => ?_)
            rw [ei, ej, hd_same R hi hd, hd_same R hj hd, qb_or]
        rw [hAB.1, hAB.2]
        unfold fOv
        have l1 := cnP_le (qb (sdH a hc &&& sdH b hc)) 32
        have l2 := cnP_le (qb (sdH a hc ||| sdH b hc)) 32
        have l3 : cnP (qb (sdH a hc &&& sdH b hc)) 32 ≤ cnP (qb (sdH a hc ||| sdH b hc)) 32 := cnP_imp (fun k _ q => by
          rw [qb_and, Bool.and_eq_true] at q
          rw [qb_or, q.1]
          rfl)
        rw [fBC_ok, fBC_ok]
        generalize cnP (qb (sdH a hc &&& sdH b hc)) 32 = A at l1 l3
        generalize cnP (qb (sdH a hc ||| sdH b hc)) 32 = B at l2 l3
        by_cases q : nI B = 0
        · have hB : B = 0 := (nI_eq (b := 0) (by omega) (by omega)).mp q
          have hA : A = 0 := by omega
          have one : one0 (nI B) = nI 1 := if_pos q
          rw [one, if_pos q, hA, fLess_01]
          rfl
        · have one : one0 (nI B) = nI B := if_neg q
          rw [one, if_neg q, fLess_ok (by omega) (by omega), cN_nI (by omega), cN_nI (by omega)]
