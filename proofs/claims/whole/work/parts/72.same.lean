/-! hoard, into, ring, order: alike -/
def setF (j : Nat) (v : Int32) (hp : mm_Hp) : mm_Hp := sR hp 25 (upd (hp.1 25) j v)
theorem setF_at (j : Nat) (v : Int32) (hp : mm_Hp) : (setF j v hp).1 25 j = v := by unfold setF; rw [sR_at, pk_us]
theorem setF_25 {j : Nat} (v : Int32) (hp : mm_Hp) {i : Nat} (h : i ≠ j) : (setF j v hp).1 25 i = hp.1 25 i := by unfold setF; rw [sR_at, pk_un h]
theorem setF_ne {j : Nat} (v : Int32) (hp : mm_Hp) {c : Nat} (h : c ≠ 25) : (setF j v hp).1 c = hp.1 c := sR_ne h
theorem Rel1.m25 {hc hm hm' : mm_Hp} (h : Rel1 hc hm) (e : ∀ c, c ≠ 25 → hm'.1 c = hm.1 c) (z : hm'.1 25 1 = hm.1 25 1) : Rel1 hc hm' := h.cg rfl rfl rfl rfl rfl rfl rfl z (e _ (by omega)) (e _ (by omega)) (e _ (by omega)) (e _ (by omega)) (e _ (by omega))
theorem Rel2.m25 {hc hm hm' : mm_Hp} (h : Rel2 hc hm) (e : ∀ c, c ≠ 25 → hm'.1 c = hm.1 c) (z : hm'.1 25 7 = hm.1 25 7) : Rel2 hc hm' := h.cg rfl rfl rfl z (e _ (by omega)) (e _ (by omega))
theorem Rel3.m25 {hc hm hm' : mm_Hp} (h : Rel3 hc hm) (e : ∀ c, c ≠ 25 → hm'.1 c = hm.1 c) (z : hm'.1 25 13 = hm.1 25 13) : Rel3 hc hm' := h.cg rfl rfl z (e _ (by omega))
theorem Rel4.m25 {hc hm hm' : mm_Hp} (h : Rel4 hc hm) (e : ∀ c, c ≠ 25 → hm'.1 c = hm.1 c) (z : hm'.1 25 17 = hm.1 25 17) : Rel4 hc hm' := h.cg rfl rfl z (e _ (by omega))
theorem Rel5.m25 {hc hm hm' : mm_Hp} (h : Rel5 hc hm) (e : ∀ c, c ≠ 25 → hm'.1 c = hm.1 c) (z : hm'.1 25 19 = hm.1 25 19) : Rel5 hc hm' := h.cg rfl rfl z (e _ (by omega))
theorem Rel6.m25 {hc hm hm' : mm_Hp} (h : Rel6 hc hm) (e : ∀ c, c ≠ 25 → hm'.1 c = hm.1 c) (z : hm'.1 25 21 = hm.1 25 21) : Rel6 hc hm' := h.cg rfl rfl rfl rfl rfl z (e _ (by omega)) (e _ (by omega))
def gHd (hp : mm_Hp) : Int32 := fGo (if 8 ≤ hp.1 25 17 then 0 else 1) 1 1
def rHdM (hp : mm_Hp) : Int32 := if gHd hp = 0 then hp.1 25 17 + 1 - 1 else 0
def hHdM (hp : mm_Hp) : mm_Hp := if gHd hp = 0 then setF 17 (hp.1 25 17 + 1) (setT 0 hp) else setT (gHd hp) hp
theorem hoard_same {hc hm : mm_Hp} (R : Rel hc hm) : (hHdM hm).1 25 0 = (if xHrd hc = 0 then 0 else 1) ∧ (xHrd hc = 0 → rHdM hm = hc.1 0 4 + 1 - 1) ∧ Rel (hHrd hc) (hHdM hm) := by
  obtain ⟨⟨n, hn, e1, e2⟩, hb⟩ := R.2.2.2.1
  unfold hHdM rHdM hHrd xHrd
  by_cases c : 8 ≤ n
  · have c1 : 8 ≤ hc.1 0 4 := by rw [e1]; exact (nI_leI (a := 8) (by omega) (by omega)).mpr c
    have c2 : 8 ≤ hm.1 25 17 := by rw [e2]; exact (nI_leI (a := 8) (by omega) (by omega)).mpr c
    have g : gHd hm = 1 := by unfold gHd; rw [if_pos c2]; rfl
    rw [if_pos c1, g, if_neg (by decide), if_neg (by decide), if_neg (by decide), if_neg (by decide)]
    exact ⟨setT_0 _ _, fun q => absurd q (by decide), R.thr _⟩
  · have c1 : ¬ 8 ≤ hc.1 0 4 := by rw [e1]; exact fun q => c ((nI_leI (a := 8) (by omega) (by omega)).mp q)
    have c2 : ¬ 8 ≤ hm.1 25 17 := by rw [e2]; exact fun q => c ((nI_leI (a := 8) (by omega) (by omega)).mp q)
    have g : gHd hm = 0 := by unfold gHd; rw [if_neg c2]; rfl
    rw [if_neg c1, g, if_pos rfl, if_pos rfl, if_pos rfl, if_pos rfl]
    obtain ⟨h1, h2, h3, h4, h5, h6⟩ := R.thr 0
    have hce : ∀ k, k ≠ 0 → (mm_up hc.1 0 4 (hc.1 0 4 + 1), hc.2).1 k = hc.1 k := fun k hk => mm_up_n hk
    refine ⟨by rw [setF_25 _ _ (by omega), setT_0], fun _ => by rw [e1, e2], ?_, ?_, ?_, ?_, ?_, ?_⟩
    · exact (h1.m25 (hm' := setF 17 (hm.1 25 17 + 1) (setT 0 hm)) (fun c hc => setF_ne _ _ hc) (setF_25 _ _ (by omega))).cg (by rw [hce _ (by omega)]) (hce _ (by omega)) (hce _ (by omega)) (hce _ (by omega)) (hce _ (by omega)) (hce _ (by omega)) (hce _ (by omega)) rfl rfl rfl rfl rfl rfl
    · exact (h2.m25 (hm' := setF 17 (hm.1 25 17 + 1) (setT 0 hm)) (fun c hc => setF_ne _ _ hc) (setF_25 _ _ (by omega))).cg (by rw [hce _ (by omega)]) (hce _ (by omega)) (hce _ (by omega)) rfl rfl rfl
    · exact (h3.m25 (hm' := setF 17 (hm.1 25 17 + 1) (setT 0 hm)) (fun c hc => setF_ne _ _ hc) (setF_25 _ _ (by omega))).cg (by rw [hce _ (by omega)]) (hce _ (by omega)) rfl rfl
    · refine ⟨⟨n + 1, by omega, ?_, by rw [setF_at, e2, nI_1]⟩, ?_⟩
      · show (mm_up hc.1 0 4 (hc.1 0 4 + 1)) 0 4 = _
        rw [mm_up_s, pk_us, e1, nI_1]
      · rw [hce 10 (by omega), setF_ne _ _ (by omega)]
        exact h4.2
    · exact (h5.m25 (hm' := setF 17 (hm.1 25 17 + 1) (setT 0 hm)) (fun c hc => setF_ne _ _ hc) (setF_25 _ _ (by omega))).cg (by rw [hce _ (by omega)]) (hce _ (by omega)) rfl rfl
    · exact (h6.m25 (hm' := setF 17 (hm.1 25 17 + 1) (setT 0 hm)) (fun c hc => setF_ne _ _ hc) (setF_25 _ _ (by omega))).cg (by rw [hce _ (by omega)]) (hce _ (by omega)) (hce _ (by omega)) (hce _ (by omega)) (hce _ (by omega)) rfl rfl rfl
/-! into -/
theorem coin_code {hc hm : mm_Hp} (h : Rel1 hc hm) (c : Int32) : (xCoin c hc = 1 ∧ fIc c hm = 0) ∨ (xCoin c hc = 0 ∧ fIc c hm = 1 ∧ ∃ k, k < szN hc ∧ c = nI k) := by
  have n := h.n
  unfold xCoin fIc
  rw [n.2.2.1, n.2.2.2]
  by_cases q : c < 0 ∨ nI (szN hc) ≤ c
  · rw [if_pos q, if_pos q]; exact Or.inl ⟨rfl, rfl⟩
  · rw [if_neg q, if_neg q]
    exact Or.inr ⟨rfl, rfl, nI_in2 (by omega) (fun r => q (Or.inl r)) (fun r => q (Or.inr r))⟩
theorem hoard_code {hc hm : mm_Hp} (h : Rel4 hc hm) (c : Int32) : (xHoard c hc = 1 ∧ fIh c hm = 0) ∨ (xHoard c hc = 0 ∧ fIh c hm = 1 ∧ ∃ k, k < 8 ∧ c = nI k) := by
  obtain ⟨⟨n, hn, e1, e2⟩, _⟩ := h
  unfold xHoard fIh
  rw [e1, e2]
  by_cases q : c < 0 ∨ nI n ≤ c
  · rw [if_pos q, if_pos q]; exact Or.inl ⟨rfl, rfl⟩
  · rw [if_neg q, if_neg q]
    obtain ⟨k, hk, e⟩ := nI_in2 (n := n) (by omega) (fun r => q (Or.inl r)) (fun r => q (Or.inr r))
    exact Or.inr ⟨rfl, rfl, k, by omega, e⟩
def gIn (h c : Int32) (hp : mm_Hp) : Int32 := fGo (if fIh h hp = 0 then 0 else if fIc c hp = 0 then 0 else 1) 1 1
def rInM (h c : Int32) (hp : mm_Hp) : Int32 := if gIn h c hp = 0 then (if hp.1 39 (80 * cN h + cN c) = 0 then 1 else 0) else 0
def hInM (h c : Int32) (hp : mm_Hp) : mm_Hp := if gIn h c hp = 0 then sR (setT 0 hp) 39 (upd (hp.1 39) (80 * cN h + cN c) 1) else setT (gIn h c hp) hp
theorem into_same {hc hm : mm_Hp} (R : Rel hc hm) (h c : Int32) : (hInM h c hm).1 25 0 = nI (xInt h c hc) ∧ (xInt h c hc = 0 → rInM h c hm = rInt h c hc) ∧ Rel (hInt h c hc) (hInM h c hm) := by
  obtain ⟨h1, h2, h3, h4, h5, h6⟩ := R.thr 0
  rcases hoard_code R.2.2.2.1 h with ⟨a1, a2⟩ | ⟨a1, a2, i, hi, ei⟩
  · have g : gIn h c hm = 1 := by unfold gIn; rw [a2, if_pos rfl]; rfl
    have x : xInt h c hc = 1 := by unfold xInt; rw [a1, if_neg (by decide)]
    unfold hInM rInM hInt
    rw [g, x, if_neg (by decide), if_neg (by decide), if_neg (by decide)]
    exact ⟨setT_0 _ _, fun q => absurd q (by decide), R.thr _⟩
  · rcases coin_code R.1 c with ⟨b1, b2⟩ | ⟨b1, b2, k, hk, ek⟩
    · have g : gIn h c hm = 1 := by unfold gIn; rw [a2, b2, if_neg (by decide), if_pos rfl]; rfl
      have x : xInt h c hc = 1 := by unfold xInt; rw [a1, b1, if_pos rfl]
      unfold hInM rInM hInt
      rw [g, x, if_neg (by decide), if_neg (by decide), if_neg (by decide)]
      exact ⟨setT_0 _ _, fun q => absurd q (by decide), R.thr _⟩
    · have g : gIn h c hm = 0 := by unfold gIn; rw [a2, b2, if_neg (by decide), if_neg (by decide)]; rfl
      have x : xInt h c hc = 0 := by unfold xInt; rw [a1, b1, if_pos rfl]
      have hk8 : k < 80 := by have := R.1.n.1; omega
      have bb := R.2.2.2.1.2 k i hk8 hi
      unfold hInM rInM hInt rInt
      rw [g, x, if_pos rfl, if_pos rfl, if_pos rfl, ei, ek, cN_nI (by omega), cN_nI (by omega), nIc (by omega)]
      have key : hm.1 39 (80 * i + k) = 0 ↔ bitAt (hc.1 10 k) (nI i) = 0 := by
        rw [bitAt_eq (by omega), ← bb.2, nz_f]
      refine ⟨?_, fun _ => ?_, ?_⟩
      · rw [sR_ne (by omega), setT_0, nI_0]
      · by_cases q : hm.1 39 (80 * i + k) = 0
        · rw [if_pos q, if_pos (key.mp q)]
        · rw [if_neg q, if_neg (fun r => q (key.mpr r))]
      · have hce : ∀ j, j ≠ 10 → (if bitAt (hc.1 10 k) (nI i) = 0 then (mm_up hc.1 10 k (hc.1 10 k ||| bit1 (nI i)), hc.2) else hc).1 j = hc.1 j := fun j hj => by
          split
          · exact mm_up_n hj
          · rfl
        have h10 : ∀ d e, e < 8 → d < 80 → qb ((if bitAt (hc.1 10 k) (nI i) = 0 then (mm_up hc.1 10 k (hc.1 10 k ||| bit1 (nI i)), hc.2) else hc).1 10 d) e = (qb (hc.1 10 d) e || (decide (d = k) && decide (i = e))) := fun d e he hd => by
          split
          · show qb ((mm_up hc.1 10 k (hc.1 10 k ||| bit1 (nI i))) 10 d) e = _
            rw [mm_up_s]
            by_cases q : d = k
            · rw [q, pk_us, qb_or, qb_bit1 (by omega)]
              simp
            · rw [pk_un q]
              simp [q]
          · rename_i q
            rw [bitAt_ne (by omega)] at q
            by_cases r : d = k ∧ i = e
            · rw [r.1, ← r.2, q]
              simp
            · rcases Classical.not_and_iff_not_or_not.mp r with r | r <;> simp [r]
        have hme : ∀ j, j ≠ 39 → (sR (setT 0 hm) 39 (upd (hm.1 39) (80 * i + k) 1)).1 j = (setT 0 hm).1 j := fun j hj => sR_ne hj
        refine ⟨?_, ?_, ?_, ?_, ?_, ?_⟩
        · exact h1.cg (by rw [hce _ (by omega)]) (hce _ (by omega)) (hce _ (by omega)) (hce _ (by omega)) (hce _ (by omega)) (hce _ (by omega)) (hce _ (by omega)) (by rw [hme _ (by omega)]) (hme _ (by omega)) (hme _ (by omega)) (hme _ (by omega)) (hme _ (by omega)) (hme _ (by omega))
        · exact h2.cg (by rw [hce _ (by omega)]) (hce _ (by omega)) (hce _ (by omega)) (by rw [hme _ (by omega)]) (hme _ (by omega)) (hme _ (by omega))
        · exact h3.cg (by rw [hce _ (by omega)]) (hce _ (by omega)) (by rw [hme _ (by omega)]) (hme _ (by omega))
        · refine ⟨?_, fun d e hd he => ?_⟩
          · rw [hce _ (by omega), hme _ (by omega)]; exact h4.1
          · have h4d := R.2.2.2.1.2 d e hd he
            rw [h10 d e he hd, sR_at]
            by_cases q : 80 * e + d = 80 * i + k
            · have q1 : e = i := by omega
              have q2 : d = k := by omega
              rw [q, pk_us, q1, q2]
              refine ⟨Or.inr rfl, ?_⟩
              simp
              rfl
            · rw [pk_un q]
              refine ⟨h4d.1, ?_⟩
              rw [h4d.2]
              have : (decide (d = k) && decide (i = e)) = false := by
                by_cases r : d = k
                · have : ¬ i = e := by omega
                  simp [this]
                · simp [r]
              rw [this, Bool.or_false]
        · exact h5.cg (by rw [hce _ (by omega)]) (hce _ (by omega)) (by rw [hme _ (by omega)]) (hme _ (by omega))
        · exact h6.cg (by rw [hce _ (by omega)]) (hce _ (by omega)) (hce _ (by omega)) (hce _ (by omega)) (hce _ (by omega)) (by rw [hme _ (by omega)]) (hme _ (by omega)) (hme _ (by omega))
/-! ring -/
def gRg (k : Int32) : Int32 := fGo (if k < 0 then 0 else 1) 1 1
def rRgM (k : Int32) (hp : mm_Hp) : Int32 := if gRg k = 0 then (if hp.1 25 13 ≤ k then -1 else hp.1 36 (cN k)) else 0
theorem ring1_same {hc hm : mm_Hp} (R : Rel hc hm) (k : Int32) : gRg k = nI (xPlace k) ∧ (xPlace k = 0 → rRgM k hm = (if hc.1 3 9 ≤ k then -1 else hc.1 19 (cN k))) := by
  unfold rRgM gRg xPlace
  by_cases c : k < 0
  · have c1 : ¬ 0 ≤ k := fun q => lt_nge c q
    rw [if_pos c, if_neg c1]
    exact ⟨rfl, fun q => absurd q (by decide)⟩
  · have c1 : 0 ≤ k := nlt_ge c
    rw [if_neg c, if_pos c1]
    refine ⟨rfl, fun _ => ?_⟩
    have g0 : fGo 1 1 1 = 0 := rfl
    rw [g0, if_pos rfl]
    obtain ⟨t, ht, e1, e2, e3⟩ := R.2.2.1
    rw [e1, e2]
    obtain ⟨j, hj, ej⟩ := nI_of c
    by_cases q : nI t ≤ k
    · rw [if_pos q, if_pos q]
    · rw [if_neg q, if_neg q]
      rw [ej, nI_leI (by omega) hj] at q
      rw [ej]
      have : cN (nI j) = j := cN_nI (by omega)
      rw [this]
      exact e3 j (by omega)
/-! order -/
def gDD (a b : Int32) : Int32 := if fId a = 0 then 0 else if fId b = 0 then 0 else 1
def gOr (a b : Int32) (c : Int32) : Int32 := fGo (gDD a b) (if gDD a b = 0 then 0 else if a / 16 = b / 16 then 1 else 0) c
theorem die_code (a : Int32) : (xDie a = 1 ∧ fId a = 0) ∨ (xDie a = 0 ∧ fId a = 1 ∧ ∃ k, k < 32 ∧ a = nI k) := by
  unfold xDie fId
  by_cases q : a < 0 ∨ 32 ≤ a
  · rw [if_pos q, if_pos q]; exact Or.inl ⟨rfl, rfl⟩
  · rw [if_neg q, if_neg q]
    exact Or.inr ⟨rfl, rfl, nI_in2 (n := 32) (by omega) (fun r => q (Or.inl r)) (fun r => q (Or.inr r))⟩
theorem ord_code (a b : Int32) : (xOrd a b = 1 ∧ ∀ c, gOr a b c = 1) ∨ (xOrd a b = 2 ∧ ∀ c, gOr a b c = 2) ∨ (xOrd a b = 0 ∧ (∀ c, gOr a b c = if c = 0 then 3 else 0) ∧ ∃ i j, i < 32 ∧ j < 32 ∧ a = nI i ∧ b = nI j) := by
  unfold xOrd gOr gDD
  rcases die_code a with ⟨a1, a2⟩ | ⟨a1, a2, i, hi, ei⟩
  · rw [a1, a2, if_neg (by decide), if_pos rfl, if_pos rfl]
    exact Or.inl ⟨rfl, fun c => rfl⟩
  · rcases die_code b with ⟨b1, b2⟩ | ⟨b1, b2, j, hj, ej⟩
    · rw [a1, a2, b1, b2, if_pos rfl, if_neg (by decide), if_neg (by decide), if_pos rfl, if_pos rfl]
      exact Or.inl ⟨rfl, fun c => rfl⟩
    · rw [a1, a2, b1, b2, if_pos rfl, if_pos rfl, if_neg (by decide), if_neg (by decide), if_neg (by decide)]
      have e16 : (16 : Int32) = nI 16 := rfl
      have ea : a / 16 = nI (i / 16) := by rw [ei, e16]; exact pk_div (by omega) (by omega) (by omega)
      have eb : b / 16 = nI (j / 16) := by rw [ej, e16]; exact pk_div (by omega) (by omega) (by omega)
      have la : 16 ≤ a ↔ 16 ≤ i := by rw [ei]; exact nI_leI (a := 16) (by omega) (by omega)
      have lb : 16 ≤ b ↔ 16 ≤ j := by rw [ej]; exact nI_leI (a := 16) (by omega) (by omega)
      unfold xOne
      by_cases q : 16 ≤ a ↔ 16 ≤ b
      · have hq : a / 16 = b / 16 := by
          rw [ea, eb, nI_eq (by omega) (by omega)]
          rw [la, lb] at q
          omega
        rw [if_pos q, if_pos hq]
        exact Or.inr (Or.inr ⟨rfl, fun c => rfl, i, j, hi, hj, ei, ej⟩)
      · have hq : ¬ a / 16 = b / 16 := by
          rw [ea, eb, nI_eq (by omega) (by omega)]
          rw [la, lb] at q
          omega
        rw [if_neg q, if_neg hq]
        exact Or.inr (Or.inl ⟨rfl, fun c => rfl⟩)
def rOrM (a b : Int32) (hp : mm_Hp) : Int32 := if gOr a b 1 = 0 then (if (hSe (setT 0 hp)).1 34 (32 * cN a + cN b) = 0 then (if (hSe (setT 0 hp)).1 34 (32 * cN b + cN a) = 0 then 0 else 1) else -1) else 0
def hOrM (a b : Int32) (hp : mm_Hp) : mm_Hp := if gOr a b 1 = 0 then hSe (setT 0 hp) else setT (gOr a b 1) hp
theorem hSe_ne (hp : mm_Hp) {c : Nat} (h1 : c ≠ 33) (h2 : c ≠ 34) : (hSe hp).1 c = hp.1 c := by
  unfold hSe
  rw [sR_ne h2, sR_ne h1]
theorem fOrder_ne (hp : mm_Hp) {c : Nat} (h1 : c ≠ 15) (h2 : c ≠ 16) (h3 : c ≠ 17) : (fOrder hp).1 c = hp.1 c := by
  unfold fOrder
  rw [sR_ne h3, sR_ne h2, sR_ne h2, sR_ne h1, sR_ne h2]
theorem Rel.ord {hc hm : mm_Hp} (R : Rel hc hm) (hc' hm' : mm_Hp) (e : ∀ c, c ≠ 15 → c ≠ 16 → c ≠ 17 → c ≠ 18 → hc'.1 c = hc.1 c) (f : ∀ c, c ≠ 33 → c ≠ 34 → c ≠ 35 → hm'.1 c = hm.1 c) : Rel hc' hm' := by
  obtain ⟨h1, h2, h3, h4, h5, h6⟩ := R
  have hce : ∀ {j : Nat}, j ≠ 15 → j ≠ 16 → j ≠ 17 → j ≠ 18 → hc'.1 j = hc.1 j := fun {j} a b c d => e j a b c d
  have hme : ∀ {j : Nat}, j ≠ 33 → j ≠ 34 → j ≠ 35 → hm'.1 j = hm.1 j := fun {j} a b c => f j a b c
  refine ⟨?_, ?_, ?_, ?_, ?_, ?_⟩
  · exact h1.cg (by rw [hce (by omega) (by omega) (by omega) (by omega)]) (hce (by omega) (by omega) (by omega) (by omega)) (hce (by omega) (by omega) (by omega) (by omega)) (hce (by omega) (by omega) (by omega) (by omega)) (hce (by omega) (by omega) (by omega) (by omega)) (hce (by omega) (by omega) (by omega) (by omega)) (hce (by omega) (by omega) (by omega) (by omega)) (by rw [hme (by omega) (by omega) (by omega)]) (hme (by omega) (by omega) (by omega)) (hme (by omega) (by omega) (by omega)) (hme (by omega) (by omega) (by omega)) (hme (by omega) (by omega) (by omega)) (hme (by omega) (by omega) (by omega))
  · exact h2.cg (by rw [hce (by omega) (by omega) (by omega) (by omega)]) (hce (by omega) (by omega) (by omega) (by omega)) (hce (by omega) (by omega) (by omega) (by omega)) (by rw [hme (by omega) (by omega) (by omega)]) (hme (by omega) (by omega) (by omega)) (hme (by omega) (by omega) (by omega))
  · exact h3.cg (by rw [hce (by omega) (by omega) (by omega) (by omega)]) (hce (by omega) (by omega) (by omega) (by omega)) (by rw [hme (by omega) (by omega) (by omega)]) (hme (by omega) (by omega) (by omega))
  · exact h4.cg (by rw [hce (by omega) (by omega) (by omega) (by omega)]) (hce (by omega) (by omega) (by omega) (by omega)) (by rw [hme (by omega) (by omega) (by omega)]) (hme (by omega) (by omega) (by omega))
  · exact h5.cg (by rw [hce (by omega) (by omega) (by omega) (by omega)]) (hce (by omega) (by omega) (by omega) (by omega)) (by rw [hme (by omega) (by omega) (by omega)]) (hme (by omega) (by omega) (by omega))
  · exact h6.cg (by rw [hce (by omega) (by omega) (by omega) (by omega)]) (hce (by omega) (by omega) (by omega) (by omega)) (hce (by omega) (by omega) (by omega) (by omega)) (hce (by omega) (by omega) (by omega) (by omega)) (hce (by omega) (by omega) (by omega) (by omega)) (by rw [hme (by omega) (by omega) (by omega)]) (hme (by omega) (by omega) (by omega)) (hme (by omega) (by omega) (by omega))
theorem order_same {hc hm : mm_Hp} (R : Rel hc hm) (a b : Int32) : (hOrM a b hm).1 25 0 = nI (xOrd a b) ∧ (xOrd a b = 0 → rOrM a b hm = rOrd a b hc) ∧ Rel (if xOrd a b = 0 then fOrder hc else hc) (hOrM a b hm) := by
  unfold hOrM rOrM
  rcases ord_code a b with ⟨a1, a2⟩ | ⟨a1, a2⟩ | ⟨a1, a2, i, j, hi, hj, ei, ej⟩
  · rw [a1, a2 1, if_neg (by decide), if_neg (by decide), if_neg (by decide)]
    exact ⟨setT_0 _ _, fun q => absurd q (by decide), R.thr _⟩
  · rw [a1, a2 1, if_neg (by decide), if_neg (by decide), if_neg (by decide)]
    exact ⟨setT_0 _ _, fun q => absurd q (by decide), R.thr _⟩
  · have g : gOr a b 1 = 0 := by rw [a2 1, if_neg (by decide)]
    rw [a1, g, if_pos rfl, if_pos rfl, if_pos rfl]
    have R0 := R.thr 0
    refine ⟨by rw [hSe_ne _ (by omega) (by omega), setT_0, nI_0], fun _ => ?_, R0.ord _ _ (fun c h1 h2 h3 _ => fOrder_ne hc h1 h2 h3) (fun c h1 h2 _ => hSe_ne _ h1 h2)⟩
    unfold rOrd
    rw [ei, ej, cN_nI (by omega), cN_nI (by omega), nIc (by omega), nIc (by omega)]
    have k1 := ear_same R0.1 R0.2.1 hi hj ((setT 0 hm).1 34)
    have k2 := ear_same R0.1 R0.2.1 hj hi ((setT 0 hm).1 34)
    have e34 : (hSe (setT 0 hm)).1 34 = fEa (fSt (setT 0 hm)) ((setT 0 hm).1 34) := by unfold hSe; rw [sR_at]
    rw [e34]
    have s1 : fEa (fSt (setT 0 hm)) ((setT 0 hm).1 34) (32 * i + j) = 0 ↔ bitAt ((fOrder hc).1 17 i) (nI j) = 0 := by rw [bitAt_eq hj, ← k1, nz_f]
    have s2 : fEa (fSt (setT 0 hm)) ((setT 0 hm).1 34) (32 * j + i) = 0 ↔ bitAt ((fOrder hc).1 17 j) (nI i) = 0 := by rw [bitAt_eq hi, ← k2, nz_f]
    generalize fEa (fSt (setT 0 hm)) ((setT 0 hm).1 34) = e at s1 s2
    generalize (fOrder hc).1 17 = l at s1 s2
    by_cases c1 : e (32 * i + j) = 0
    · rw [if_pos c1, if_pos (s1.mp c1)]
      by_cases c2 : e (32 * j + i) = 0
      · rw [if_pos c2, if_pos (s2.mp c2)]
      · rw [if_neg c2, if_neg (fun q => c2 (s2.mpr q))]
    · rw [if_neg c1, if_neg (fun q => c1 (s1.mpr q))]
